theorem dX0_init_0 : decode cX0_init 0 = .ok (.aload_n 0, 1) := by decide +kernel
theorem dX0_init_1 : decode cX0_init 1 = .ok (.invokespecial 3, 3) := by decide +kernel
theorem dX0_init_4 : decode cX0_init 4 = .ok (.aload_n 0, 1) := by decide +kernel
theorem dX0_init_5 : decode cX0_init 5 = .ok (.new 9, 3) := by decide +kernel
theorem dX0_init_8 : decode cX0_init 8 = .ok (.dup, 1) := by decide +kernel
theorem dX0_init_9 : decode cX0_init 9 = .ok (.bipush 14, 2) := by decide +kernel
theorem dX0_init_11 : decode cX0_init 11 = .ok (.invokespecial 11, 3) := by decide +kernel
theorem dX0_init_14 : decode cX0_init 14 = .ok (.putfield 14, 3) := by decide +kernel
theorem dX0_init_17 : decode cX0_init 17 = .ok (.return_, 1) := by decide +kernel
theorem dX0_listFor_0 : decode cX0_listFor 0 = .ok (.aload_n 0, 1) := by decide +kernel
theorem dX0_listFor_1 : decode cX0_listFor 1 = .ok (.getfield 14, 3) := by decide +kernel
theorem dX0_listFor_4 : decode cX0_listFor 4 = .ok (.invokevirtual 20, 3) := by decide +kernel
theorem dX0_listFor_7 : decode cX0_listFor 7 = .ok (.pop, 1) := by decide +kernel
theorem dX0_listFor_8 : decode cX0_listFor 8 = .ok (.iconst 0, 1) := by decide +kernel
theorem dX0_listFor_9 : decode cX0_listFor 9 = .ok (.istore_n 3, 1) := by decide +kernel
theorem dX0_listFor_10 : decode cX0_listFor 10 = .ok (.iload_n 3, 1) := by decide +kernel
theorem dX0_listFor_11 : decode cX0_listFor 11 = .ok (.aload_n 1, 1) := by decide +kernel
theorem dX0_listFor_12 : decode cX0_listFor 12 = .ok (.invokevirtual 24, 3) := by decide +kernel
theorem dX0_listFor_15 : decode cX0_listFor 15 = .ok (.if_icmp .ge 32, 3) := by decide +kernel
theorem dX0_listFor_18 : decode cX0_listFor 18 = .ok (.aload_n 1, 1) := by decide +kernel
theorem dX0_listFor_19 : decode cX0_listFor 19 = .ok (.iload_n 3, 1) := by decide +kernel
theorem dX0_listFor_20 : decode cX0_listFor 20 = .ok (.aload_n 2, 1) := by decide +kernel
theorem dX0_listFor_21 : decode cX0_listFor 21 = .ok (.invokevirtual 29, 3) := by decide +kernel
theorem dX0_listFor_24 : decode cX0_listFor 24 = .ok (.ifCond .eq 17, 3) := by decide +kernel
theorem dX0_listFor_27 : decode cX0_listFor 27 = .ok (.aload_n 0, 1) := by decide +kernel
theorem dX0_listFor_28 : decode cX0_listFor 28 = .ok (.getfield 14, 3) := by decide +kernel
theorem dX0_listFor_31 : decode cX0_listFor 31 = .ok (.aload_n 0, 1) := by decide +kernel
theorem dX0_listFor_32 : decode cX0_listFor 32 = .ok (.aload_n 1, 1) := by decide +kernel
theorem dX0_listFor_33 : decode cX0_listFor 33 = .ok (.iload_n 3, 1) := by decide +kernel
theorem dX0_listFor_34 : decode cX0_listFor 34 = .ok (.invokevirtual 33, 3) := by decide +kernel
theorem dX0_listFor_37 : decode cX0_listFor 37 = .ok (.iload_n 3, 1) := by decide +kernel
theorem dX0_listFor_38 : decode cX0_listFor 38 = .ok (.invokevirtual 37, 3) := by decide +kernel
theorem dX0_listFor_41 : decode cX0_listFor 41 = .ok (.iinc 3 1, 3) := by decide +kernel
theorem dX0_listFor_44 : decode cX0_listFor 44 = .ok (.goto (-34), 3) := by decide +kernel
theorem dX0_listFor_47 : decode cX0_listFor 47 = .ok (.aload_n 0, 1) := by decide +kernel
theorem dX0_listFor_48 : decode cX0_listFor 48 = .ok (.getfield 14, 3) := by decide +kernel
theorem dX0_listFor_51 : decode cX0_listFor 51 = .ok (.areturn, 1) := by decide +kernel
theorem dX0_placeInList_0 : decode cX0_placeInList 0 = .ok (.aload_n 0, 1) := by decide +kernel
theorem dX0_placeInList_1 : decode cX0_placeInList 1 = .ok (.getfield 14, 3) := by decide +kernel
theorem dX0_placeInList_4 : decode cX0_placeInList 4 = .ok (.invokevirtual 41, 3) := by decide +kernel
theorem dX0_placeInList_7 : decode cX0_placeInList 7 = .ok (.istore_n 3, 1) := by decide +kernel
theorem dX0_placeInList_8 : decode cX0_placeInList 8 = .ok (.iload_n 3, 1) := by decide +kernel
theorem dX0_placeInList_9 : decode cX0_placeInList 9 = .ok (.ifCond .le 27, 3) := by decide +kernel
theorem dX0_placeInList_12 : decode cX0_placeInList 12 = .ok (.aload_n 1, 1) := by decide +kernel
theorem dX0_placeInList_13 : decode cX0_placeInList 13 = .ok (.iload_n 2, 1) := by decide +kernel
theorem dX0_placeInList_14 : decode cX0_placeInList 14 = .ok (.aload_n 0, 1) := by decide +kernel
theorem dX0_placeInList_15 : decode cX0_placeInList 15 = .ok (.getfield 14, 3) := by decide +kernel
theorem dX0_placeInList_18 : decode cX0_placeInList 18 = .ok (.iload_n 3, 1) := by decide +kernel
theorem dX0_placeInList_19 : decode cX0_placeInList 19 = .ok (.iconst 1, 1) := by decide +kernel
theorem dX0_placeInList_20 : decode cX0_placeInList 20 = .ok (.isub, 1) := by decide +kernel
theorem dX0_placeInList_21 : decode cX0_placeInList 21 = .ok (.invokevirtual 42, 3) := by decide +kernel
theorem dX0_placeInList_24 : decode cX0_placeInList 24 = .ok (.invokevirtual 46, 3) := by decide +kernel
theorem dX0_placeInList_27 : decode cX0_placeInList 27 = .ok (.ifCond .eq 9, 3) := by decide +kernel
theorem dX0_placeInList_30 : decode cX0_placeInList 30 = .ok (.iinc 3 (-1), 3) := by decide +kernel
theorem dX0_placeInList_33 : decode cX0_placeInList 33 = .ok (.goto (-25), 3) := by decide +kernel
theorem dX0_placeInList_36 : decode cX0_placeInList 36 = .ok (.iload_n 3, 1) := by decide +kernel
theorem dX0_placeInList_37 : decode cX0_placeInList 37 = .ok (.ireturn, 1) := by decide +kernel
theorem dX0_placeIn_0 : decode cX0_placeIn 0 = .ok (.iconst 0, 1) := by decide +kernel
theorem dX0_placeIn_1 : decode cX0_placeIn 1 = .ok (.istore 4, 2) := by decide +kernel
theorem dX0_placeIn_3 : decode cX0_placeIn 3 = .ok (.iconst 0, 1) := by decide +kernel
theorem dX0_placeIn_4 : decode cX0_placeIn 4 = .ok (.istore 5, 2) := by decide +kernel
theorem dX0_placeIn_6 : decode cX0_placeIn 6 = .ok (.iload 5, 2) := by decide +kernel
theorem dX0_placeIn_8 : decode cX0_placeIn 8 = .ok (.aload_n 1, 1) := by decide +kernel
theorem dX0_placeIn_9 : decode cX0_placeIn 9 = .ok (.invokevirtual 24, 3) := by decide +kernel
theorem dX0_placeIn_12 : decode cX0_placeIn 12 = .ok (.if_icmp .ge 33, 3) := by decide +kernel
theorem dX0_placeIn_15 : decode cX0_placeIn 15 = .ok (.aload_n 1, 1) := by decide +kernel
theorem dX0_placeIn_16 : decode cX0_placeIn 16 = .ok (.iload 5, 2) := by decide +kernel
theorem dX0_placeIn_18 : decode cX0_placeIn 18 = .ok (.iload_n 3, 1) := by decide +kernel
theorem dX0_placeIn_19 : decode cX0_placeIn 19 = .ok (.invokevirtual 46, 3) := by decide +kernel
theorem dX0_placeIn_22 : decode cX0_placeIn 22 = .ok (.ifCond .eq 17, 3) := by decide +kernel
theorem dX0_placeIn_25 : decode cX0_placeIn 25 = .ok (.aload_n 1, 1) := by decide +kernel
theorem dX0_placeIn_26 : decode cX0_placeIn 26 = .ok (.iload 5, 2) := by decide +kernel
theorem dX0_placeIn_28 : decode cX0_placeIn 28 = .ok (.iload_n 3, 1) := by decide +kernel
theorem dX0_placeIn_29 : decode cX0_placeIn 29 = .ok (.invokevirtual 50, 3) := by decide +kernel
theorem dX0_placeIn_32 : decode cX0_placeIn 32 = .ok (.iload_n 2, 1) := by decide +kernel
theorem dX0_placeIn_33 : decode cX0_placeIn 33 = .ok (.if_icmp .lt 6, 3) := by decide +kernel
theorem dX0_placeIn_36 : decode cX0_placeIn 36 = .ok (.iinc 4 1, 3) := by decide +kernel
theorem dX0_placeIn_39 : decode cX0_placeIn 39 = .ok (.iinc 5 1, 3) := by decide +kernel
theorem dX0_placeIn_42 : decode cX0_placeIn 42 = .ok (.goto (-36), 3) := by decide +kernel
theorem dX0_placeIn_45 : decode cX0_placeIn 45 = .ok (.iload 4, 2) := by decide +kernel
theorem dX0_placeIn_47 : decode cX0_placeIn 47 = .ok (.ireturn, 1) := by decide +kernel
theorem dX0_presses_0 : decode cX0_presses 0 = .ok (.aload_n 0, 1) := by decide +kernel
theorem dX0_presses_1 : decode cX0_presses 1 = .ok (.aload_n 1, 1) := by decide +kernel
theorem dX0_presses_2 : decode cX0_presses 2 = .ok (.iconst 0, 1) := by decide +kernel
theorem dX0_presses_3 : decode cX0_presses 3 = .ok (.iload_n 2, 1) := by decide +kernel
theorem dX0_presses_4 : decode cX0_presses 4 = .ok (.invokevirtual 54, 3) := by decide +kernel
theorem dX0_presses_7 : decode cX0_presses 7 = .ok (.iconst 1, 1) := by decide +kernel
theorem dX0_presses_8 : decode cX0_presses 8 = .ok (.iadd, 1) := by decide +kernel
theorem dX0_presses_9 : decode cX0_presses 9 = .ok (.istore_n 3, 1) := by decide +kernel
theorem dX0_presses_10 : decode cX0_presses 10 = .ok (.iconst 1, 1) := by decide +kernel
theorem dX0_presses_11 : decode cX0_presses 11 = .ok (.istore 4, 2) := by decide +kernel
theorem dX0_presses_13 : decode cX0_presses 13 = .ok (.iload 4, 2) := by decide +kernel
theorem dX0_presses_15 : decode cX0_presses 15 = .ok (.aload_n 1, 1) := by decide +kernel
theorem dX0_presses_16 : decode cX0_presses 16 = .ok (.iload_n 2, 1) := by decide +kernel
theorem dX0_presses_17 : decode cX0_presses 17 = .ok (.invokevirtual 58, 3) := by decide +kernel
theorem dX0_presses_20 : decode cX0_presses 20 = .ok (.if_icmp .gt 27, 3) := by decide +kernel
theorem dX0_presses_23 : decode cX0_presses 23 = .ok (.iload_n 3, 1) := by decide +kernel
theorem dX0_presses_24 : decode cX0_presses 24 = .ok (.iload 4, 2) := by decide +kernel
theorem dX0_presses_26 : decode cX0_presses 26 = .ok (.aload_n 0, 1) := by decide +kernel
theorem dX0_presses_27 : decode cX0_presses 27 = .ok (.aload_n 1, 1) := by decide +kernel
theorem dX0_presses_28 : decode cX0_presses 28 = .ok (.iload 4, 2) := by decide +kernel
theorem dX0_presses_30 : decode cX0_presses 30 = .ok (.iload_n 2, 1) := by decide +kernel
theorem dX0_presses_31 : decode cX0_presses 31 = .ok (.invokevirtual 54, 3) := by decide +kernel
theorem dX0_presses_34 : decode cX0_presses 34 = .ok (.iadd, 1) := by decide +kernel
theorem dX0_presses_35 : decode cX0_presses 35 = .ok (.iconst 1, 1) := by decide +kernel
theorem dX0_presses_36 : decode cX0_presses 36 = .ok (.iadd, 1) := by decide +kernel
theorem dX0_presses_37 : decode cX0_presses 37 = .ok (.invokestatic 61, 3) := by decide +kernel
theorem dX0_presses_40 : decode cX0_presses 40 = .ok (.istore_n 3, 1) := by decide +kernel
theorem dX0_presses_41 : decode cX0_presses 41 = .ok (.iinc 4 1, 3) := by decide +kernel
theorem dX0_presses_44 : decode cX0_presses 44 = .ok (.goto (-31), 3) := by decide +kernel
theorem dX0_presses_47 : decode cX0_presses 47 = .ok (.iload_n 3, 1) := by decide +kernel
theorem dX0_presses_48 : decode cX0_presses 48 = .ok (.ireturn, 1) := by decide +kernel
theorem dX0_distinguishingLength_0 : decode cX0_distinguishingLength 0 = .ok (.iconst 0, 1) := by decide +kernel
theorem dX0_distinguishingLength_1 : decode cX0_distinguishingLength 1 = .ok (.istore_n 3, 1) := by decide +kernel
theorem dX0_distinguishingLength_2 : decode cX0_distinguishingLength 2 = .ok (.iconst 0, 1) := by decide +kernel
theorem dX0_distinguishingLength_3 : decode cX0_distinguishingLength 3 = .ok (.istore 4, 2) := by decide +kernel
theorem dX0_distinguishingLength_5 : decode cX0_distinguishingLength 5 = .ok (.iload 4, 2) := by decide +kernel
theorem dX0_distinguishingLength_7 : decode cX0_distinguishingLength 7 = .ok (.aload_n 1, 1) := by decide +kernel
theorem dX0_distinguishingLength_8 : decode cX0_distinguishingLength 8 = .ok (.invokevirtual 24, 3) := by decide +kernel
theorem dX0_distinguishingLength_11 : decode cX0_distinguishingLength 11 = .ok (.if_icmp .ge 29, 3) := by decide +kernel
theorem dX0_distinguishingLength_14 : decode cX0_distinguishingLength 14 = .ok (.iload 4, 2) := by decide +kernel
theorem dX0_distinguishingLength_16 : decode cX0_distinguishingLength 16 = .ok (.iload_n 2, 1) := by decide +kernel
theorem dX0_distinguishingLength_17 : decode cX0_distinguishingLength 17 = .ok (.if_icmp .eq 17, 3) := by decide +kernel
theorem dX0_distinguishingLength_20 : decode cX0_distinguishingLength 20 = .ok (.iload_n 3, 1) := by decide +kernel
theorem dX0_distinguishingLength_21 : decode cX0_distinguishingLength 21 = .ok (.aload_n 1, 1) := by decide +kernel
theorem dX0_distinguishingLength_22 : decode cX0_distinguishingLength 22 = .ok (.iload 4, 2) := by decide +kernel
theorem dX0_distinguishingLength_24 : decode cX0_distinguishingLength 24 = .ok (.iload_n 2, 1) := by decide +kernel
theorem dX0_distinguishingLength_25 : decode cX0_distinguishingLength 25 = .ok (.invokevirtual 50, 3) := by decide +kernel
theorem dX0_distinguishingLength_28 : decode cX0_distinguishingLength 28 = .ok (.iconst 1, 1) := by decide +kernel
theorem dX0_distinguishingLength_29 : decode cX0_distinguishingLength 29 = .ok (.iadd, 1) := by decide +kernel
theorem dX0_distinguishingLength_30 : decode cX0_distinguishingLength 30 = .ok (.invokestatic 66, 3) := by decide +kernel
theorem dX0_distinguishingLength_33 : decode cX0_distinguishingLength 33 = .ok (.istore_n 3, 1) := by decide +kernel
theorem dX0_distinguishingLength_34 : decode cX0_distinguishingLength 34 = .ok (.iinc 4 1, 3) := by decide +kernel
theorem dX0_distinguishingLength_37 : decode cX0_distinguishingLength 37 = .ok (.goto (-32), 3) := by decide +kernel
theorem dX0_distinguishingLength_40 : decode cX0_distinguishingLength 40 = .ok (.iload_n 3, 1) := by decide +kernel
theorem dX0_distinguishingLength_41 : decode cX0_distinguishingLength 41 = .ok (.aload_n 1, 1) := by decide +kernel
theorem dX0_distinguishingLength_42 : decode cX0_distinguishingLength 42 = .ok (.iload_n 2, 1) := by decide +kernel
theorem dX0_distinguishingLength_43 : decode cX0_distinguishingLength 43 = .ok (.invokevirtual 58, 3) := by decide +kernel
theorem dX0_distinguishingLength_46 : decode cX0_distinguishingLength 46 = .ok (.if_icmp .gt 7, 3) := by decide +kernel
theorem dX0_distinguishingLength_49 : decode cX0_distinguishingLength 49 = .ok (.iload_n 3, 1) := by decide +kernel
theorem dX0_distinguishingLength_50 : decode cX0_distinguishingLength 50 = .ok (.goto 4, 3) := by decide +kernel
theorem dX0_distinguishingLength_53 : decode cX0_distinguishingLength 53 = .ok (.iconst (-1), 1) := by decide +kernel
theorem dX0_distinguishingLength_54 : decode cX0_distinguishingLength 54 = .ok (.ireturn, 1) := by decide +kernel
theorem dX0_twins_0 : decode cX0_twins 0 = .ok (.aload_n 0, 1) := by decide +kernel
theorem dX0_twins_1 : decode cX0_twins 1 = .ok (.aload_n 1, 1) := by decide +kernel
theorem dX0_twins_2 : decode cX0_twins 2 = .ok (.aload_n 1, 1) := by decide +kernel
theorem dX0_twins_3 : decode cX0_twins 3 = .ok (.invokevirtual 24, 3) := by decide +kernel
theorem dX0_twins_6 : decode cX0_twins 6 = .ok (.iload_n 2, 1) := by decide +kernel
theorem dX0_twins_7 : decode cX0_twins 7 = .ok (.invokevirtual 69, 3) := by decide +kernel
theorem dX0_twins_10 : decode cX0_twins 10 = .ok (.ireturn, 1) := by decide +kernel
theorem dX0_twinsBelow_0 : decode cX0_twinsBelow 0 = .ok (.iconst 0, 1) := by decide +kernel
theorem dX0_twinsBelow_1 : decode cX0_twinsBelow 1 = .ok (.istore 4, 2) := by decide +kernel
theorem dX0_twinsBelow_3 : decode cX0_twinsBelow 3 = .ok (.iconst 0, 1) := by decide +kernel
theorem dX0_twinsBelow_4 : decode cX0_twinsBelow 4 = .ok (.istore 5, 2) := by decide +kernel
theorem dX0_twinsBelow_6 : decode cX0_twinsBelow 6 = .ok (.iload 5, 2) := by decide +kernel
theorem dX0_twinsBelow_8 : decode cX0_twinsBelow 8 = .ok (.iload_n 2, 1) := by decide +kernel
theorem dX0_twinsBelow_9 : decode cX0_twinsBelow 9 = .ok (.if_icmp .ge 22, 3) := by decide +kernel
theorem dX0_twinsBelow_12 : decode cX0_twinsBelow 12 = .ok (.aload_n 1, 1) := by decide +kernel
theorem dX0_twinsBelow_13 : decode cX0_twinsBelow 13 = .ok (.iload_n 3, 1) := by decide +kernel
theorem dX0_twinsBelow_14 : decode cX0_twinsBelow 14 = .ok (.iload 5, 2) := by decide +kernel
theorem dX0_twinsBelow_16 : decode cX0_twinsBelow 16 = .ok (.invokevirtual 72, 3) := by decide +kernel
theorem dX0_twinsBelow_19 : decode cX0_twinsBelow 19 = .ok (.ifCond .eq 6, 3) := by decide +kernel
theorem dX0_twinsBelow_22 : decode cX0_twinsBelow 22 = .ok (.iinc 4 1, 3) := by decide +kernel
theorem dX0_twinsBelow_25 : decode cX0_twinsBelow 25 = .ok (.iinc 5 1, 3) := by decide +kernel
theorem dX0_twinsBelow_28 : decode cX0_twinsBelow 28 = .ok (.goto (-22), 3) := by decide +kernel
theorem dX0_twinsBelow_31 : decode cX0_twinsBelow 31 = .ok (.iload 4, 2) := by decide +kernel
theorem dX0_twinsBelow_33 : decode cX0_twinsBelow 33 = .ok (.ireturn, 1) := by decide +kernel
theorem dX0_namesWithTwins_0 : decode cX0_namesWithTwins 0 = .ok (.iconst 0, 1) := by decide +kernel
theorem dX0_namesWithTwins_1 : decode cX0_namesWithTwins 1 = .ok (.istore_n 2, 1) := by decide +kernel
theorem dX0_namesWithTwins_2 : decode cX0_namesWithTwins 2 = .ok (.iconst 0, 1) := by decide +kernel
theorem dX0_namesWithTwins_3 : decode cX0_namesWithTwins 3 = .ok (.istore_n 3, 1) := by decide +kernel
theorem dX0_namesWithTwins_4 : decode cX0_namesWithTwins 4 = .ok (.iload_n 3, 1) := by decide +kernel
theorem dX0_namesWithTwins_5 : decode cX0_namesWithTwins 5 = .ok (.aload_n 1, 1) := by decide +kernel
theorem dX0_namesWithTwins_6 : decode cX0_namesWithTwins 6 = .ok (.invokevirtual 24, 3) := by decide +kernel
theorem dX0_namesWithTwins_9 : decode cX0_namesWithTwins 9 = .ok (.if_icmp .ge 21, 3) := by decide +kernel
theorem dX0_namesWithTwins_12 : decode cX0_namesWithTwins 12 = .ok (.aload_n 0, 1) := by decide +kernel
theorem dX0_namesWithTwins_13 : decode cX0_namesWithTwins 13 = .ok (.aload_n 1, 1) := by decide +kernel
theorem dX0_namesWithTwins_14 : decode cX0_namesWithTwins 14 = .ok (.iload_n 3, 1) := by decide +kernel
theorem dX0_namesWithTwins_15 : decode cX0_namesWithTwins 15 = .ok (.invokevirtual 75, 3) := by decide +kernel
theorem dX0_namesWithTwins_18 : decode cX0_namesWithTwins 18 = .ok (.ifCond .le 6, 3) := by decide +kernel
theorem dX0_namesWithTwins_21 : decode cX0_namesWithTwins 21 = .ok (.iinc 2 1, 3) := by decide +kernel
theorem dX0_namesWithTwins_24 : decode cX0_namesWithTwins 24 = .ok (.iinc 3 1, 3) := by decide +kernel
theorem dX0_namesWithTwins_27 : decode cX0_namesWithTwins 27 = .ok (.goto (-23), 3) := by decide +kernel
theorem dX0_namesWithTwins_30 : decode cX0_namesWithTwins 30 = .ok (.iload_n 2, 1) := by decide +kernel
theorem dX0_namesWithTwins_31 : decode cX0_namesWithTwins 31 = .ok (.ireturn, 1) := by decide +kernel
theorem dX0_differentCodes_0 : decode cX0_differentCodes 0 = .ok (.iconst 0, 1) := by decide +kernel
theorem dX0_differentCodes_1 : decode cX0_differentCodes 1 = .ok (.istore_n 2, 1) := by decide +kernel
theorem dX0_differentCodes_2 : decode cX0_differentCodes 2 = .ok (.iconst 0, 1) := by decide +kernel
theorem dX0_differentCodes_3 : decode cX0_differentCodes 3 = .ok (.istore_n 3, 1) := by decide +kernel
theorem dX0_differentCodes_4 : decode cX0_differentCodes 4 = .ok (.iload_n 3, 1) := by decide +kernel
theorem dX0_differentCodes_5 : decode cX0_differentCodes 5 = .ok (.aload_n 1, 1) := by decide +kernel
theorem dX0_differentCodes_6 : decode cX0_differentCodes 6 = .ok (.invokevirtual 24, 3) := by decide +kernel
theorem dX0_differentCodes_9 : decode cX0_differentCodes 9 = .ok (.if_icmp .ge 22, 3) := by decide +kernel
theorem dX0_differentCodes_12 : decode cX0_differentCodes 12 = .ok (.aload_n 0, 1) := by decide +kernel
theorem dX0_differentCodes_13 : decode cX0_differentCodes 13 = .ok (.aload_n 1, 1) := by decide +kernel
theorem dX0_differentCodes_14 : decode cX0_differentCodes 14 = .ok (.iload_n 3, 1) := by decide +kernel
theorem dX0_differentCodes_15 : decode cX0_differentCodes 15 = .ok (.iload_n 3, 1) := by decide +kernel
theorem dX0_differentCodes_16 : decode cX0_differentCodes 16 = .ok (.invokevirtual 69, 3) := by decide +kernel
theorem dX0_differentCodes_19 : decode cX0_differentCodes 19 = .ok (.ifCond .ne 6, 3) := by decide +kernel
theorem dX0_differentCodes_22 : decode cX0_differentCodes 22 = .ok (.iinc 2 1, 3) := by decide +kernel
theorem dX0_differentCodes_25 : decode cX0_differentCodes 25 = .ok (.iinc 3 1, 3) := by decide +kernel
theorem dX0_differentCodes_28 : decode cX0_differentCodes 28 = .ok (.goto (-24), 3) := by decide +kernel
theorem dX0_differentCodes_31 : decode cX0_differentCodes 31 = .ok (.iload_n 2, 1) := by decide +kernel
theorem dX0_differentCodes_32 : decode cX0_differentCodes 32 = .ok (.ireturn, 1) := by decide +kernel
theorem dX0_greatestDistinguishingLength_0 : decode cX0_greatestDistinguishingLength 0 = .ok (.iconst (-1), 1) := by decide +kernel
theorem dX0_greatestDistinguishingLength_1 : decode cX0_greatestDistinguishingLength 1 = .ok (.istore_n 2, 1) := by decide +kernel
theorem dX0_greatestDistinguishingLength_2 : decode cX0_greatestDistinguishingLength 2 = .ok (.iconst 0, 1) := by decide +kernel
theorem dX0_greatestDistinguishingLength_3 : decode cX0_greatestDistinguishingLength 3 = .ok (.istore_n 3, 1) := by decide +kernel
theorem dX0_greatestDistinguishingLength_4 : decode cX0_greatestDistinguishingLength 4 = .ok (.iload_n 3, 1) := by decide +kernel
theorem dX0_greatestDistinguishingLength_5 : decode cX0_greatestDistinguishingLength 5 = .ok (.aload_n 1, 1) := by decide +kernel
theorem dX0_greatestDistinguishingLength_6 : decode cX0_greatestDistinguishingLength 6 = .ok (.invokevirtual 24, 3) := by decide +kernel
theorem dX0_greatestDistinguishingLength_9 : decode cX0_greatestDistinguishingLength 9 = .ok (.if_icmp .ge 20, 3) := by decide +kernel
theorem dX0_greatestDistinguishingLength_12 : decode cX0_greatestDistinguishingLength 12 = .ok (.iload_n 2, 1) := by decide +kernel
theorem dX0_greatestDistinguishingLength_13 : decode cX0_greatestDistinguishingLength 13 = .ok (.aload_n 0, 1) := by decide +kernel
theorem dX0_greatestDistinguishingLength_14 : decode cX0_greatestDistinguishingLength 14 = .ok (.aload_n 1, 1) := by decide +kernel
theorem dX0_greatestDistinguishingLength_15 : decode cX0_greatestDistinguishingLength 15 = .ok (.iload_n 3, 1) := by decide +kernel
theorem dX0_greatestDistinguishingLength_16 : decode cX0_greatestDistinguishingLength 16 = .ok (.invokevirtual 78, 3) := by decide +kernel
theorem dX0_greatestDistinguishingLength_19 : decode cX0_greatestDistinguishingLength 19 = .ok (.invokestatic 66, 3) := by decide +kernel
theorem dX0_greatestDistinguishingLength_22 : decode cX0_greatestDistinguishingLength 22 = .ok (.istore_n 2, 1) := by decide +kernel
theorem dX0_greatestDistinguishingLength_23 : decode cX0_greatestDistinguishingLength 23 = .ok (.iinc 3 1, 3) := by decide +kernel
theorem dX0_greatestDistinguishingLength_26 : decode cX0_greatestDistinguishingLength 26 = .ok (.goto (-22), 3) := by decide +kernel
theorem dX0_greatestDistinguishingLength_29 : decode cX0_greatestDistinguishingLength 29 = .ok (.iload_n 2, 1) := by decide +kernel
theorem dX0_greatestDistinguishingLength_30 : decode cX0_greatestDistinguishingLength 30 = .ok (.ireturn, 1) := by decide +kernel
theorem dX0_sumOfPresses_0 : decode cX0_sumOfPresses 0 = .ok (.iconst 0, 1) := by decide +kernel
theorem dX0_sumOfPresses_1 : decode cX0_sumOfPresses 1 = .ok (.istore_n 2, 1) := by decide +kernel
theorem dX0_sumOfPresses_2 : decode cX0_sumOfPresses 2 = .ok (.iconst 0, 1) := by decide +kernel
theorem dX0_sumOfPresses_3 : decode cX0_sumOfPresses 3 = .ok (.istore_n 3, 1) := by decide +kernel
theorem dX0_sumOfPresses_4 : decode cX0_sumOfPresses 4 = .ok (.iload_n 3, 1) := by decide +kernel
theorem dX0_sumOfPresses_5 : decode cX0_sumOfPresses 5 = .ok (.aload_n 1, 1) := by decide +kernel
theorem dX0_sumOfPresses_6 : decode cX0_sumOfPresses 6 = .ok (.invokevirtual 24, 3) := by decide +kernel
theorem dX0_sumOfPresses_9 : decode cX0_sumOfPresses 9 = .ok (.if_icmp .ge 24, 3) := by decide +kernel
theorem dX0_sumOfPresses_12 : decode cX0_sumOfPresses 12 = .ok (.iload_n 2, 1) := by decide +kernel
theorem dX0_sumOfPresses_13 : decode cX0_sumOfPresses 13 = .ok (.aload_n 1, 1) := by decide +kernel
theorem dX0_sumOfPresses_14 : decode cX0_sumOfPresses 14 = .ok (.iload_n 3, 1) := by decide +kernel
theorem dX0_sumOfPresses_15 : decode cX0_sumOfPresses 15 = .ok (.invokevirtual 81, 3) := by decide +kernel
theorem dX0_sumOfPresses_18 : decode cX0_sumOfPresses 18 = .ok (.aload_n 0, 1) := by decide +kernel
theorem dX0_sumOfPresses_19 : decode cX0_sumOfPresses 19 = .ok (.aload_n 1, 1) := by decide +kernel
theorem dX0_sumOfPresses_20 : decode cX0_sumOfPresses 20 = .ok (.iload_n 3, 1) := by decide +kernel
theorem dX0_sumOfPresses_21 : decode cX0_sumOfPresses 21 = .ok (.invokevirtual 84, 3) := by decide +kernel
theorem dX0_sumOfPresses_24 : decode cX0_sumOfPresses 24 = .ok (.imul, 1) := by decide +kernel
theorem dX0_sumOfPresses_25 : decode cX0_sumOfPresses 25 = .ok (.iadd, 1) := by decide +kernel
theorem dX0_sumOfPresses_26 : decode cX0_sumOfPresses 26 = .ok (.istore_n 2, 1) := by decide +kernel
theorem dX0_sumOfPresses_27 : decode cX0_sumOfPresses 27 = .ok (.iinc 3 1, 3) := by decide +kernel
theorem dX0_sumOfPresses_30 : decode cX0_sumOfPresses 30 = .ok (.goto (-26), 3) := by decide +kernel
theorem dX0_sumOfPresses_33 : decode cX0_sumOfPresses 33 = .ok (.iload_n 2, 1) := by decide +kernel
theorem dX0_sumOfPresses_34 : decode cX0_sumOfPresses 34 = .ok (.ireturn, 1) := by decide +kernel
theorem dX1_init_0 : decode cX1_init 0 = .ok (.aload_n 0, 1) := by decide +kernel
theorem dX1_init_1 : decode cX1_init 1 = .ok (.invokespecial 3, 3) := by decide +kernel
theorem dX1_init_4 : decode cX1_init 4 = .ok (.iload_n 3, 1) := by decide +kernel
theorem dX1_init_5 : decode cX1_init 5 = .ok (.iconst 0, 1) := by decide +kernel
theorem dX1_init_6 : decode cX1_init 6 = .ok (.invokestatic 9, 3) := by decide +kernel
theorem dX1_init_9 : decode cX1_init 9 = .ok (.istore 5, 2) := by decide +kernel
theorem dX1_init_11 : decode cX1_init 11 = .ok (.aload_n 0, 1) := by decide +kernel
theorem dX1_init_12 : decode cX1_init 12 = .ok (.iload 5, 2) := by decide +kernel
theorem dX1_init_14 : decode cX1_init 14 = .ok (.newarray .int, 2) := by decide +kernel
theorem dX1_init_16 : decode cX1_init 16 = .ok (.putfield 15, 3) := by decide +kernel
theorem dX1_init_19 : decode cX1_init 19 = .ok (.aload_n 0, 1) := by decide +kernel
theorem dX1_init_20 : decode cX1_init 20 = .ok (.iload 5, 2) := by decide +kernel
theorem dX1_init_22 : decode cX1_init 22 = .ok (.newarray .int, 2) := by decide +kernel
theorem dX1_init_24 : decode cX1_init 24 = .ok (.putfield 21, 3) := by decide +kernel
theorem dX1_init_27 : decode cX1_init 27 = .ok (.iconst 0, 1) := by decide +kernel
theorem dX1_init_28 : decode cX1_init 28 = .ok (.istore 6, 2) := by decide +kernel
theorem dX1_init_30 : decode cX1_init 30 = .ok (.iload 6, 2) := by decide +kernel
theorem dX1_init_32 : decode cX1_init 32 = .ok (.iload 5, 2) := by decide +kernel
theorem dX1_init_34 : decode cX1_init 34 = .ok (.if_icmp .ge 24, 3) := by decide +kernel
theorem dX1_init_37 : decode cX1_init 37 = .ok (.aload_n 0, 1) := by decide +kernel
theorem dX1_init_38 : decode cX1_init 38 = .ok (.getfield 15, 3) := by decide +kernel
theorem dX1_init_41 : decode cX1_init 41 = .ok (.iload 6, 2) := by decide +kernel
theorem dX1_init_43 : decode cX1_init 43 = .ok (.aload_n 1, 1) := by decide +kernel
theorem dX1_init_44 : decode cX1_init 44 = .ok (.iload_n 2, 1) := by decide +kernel
theorem dX1_init_45 : decode cX1_init 45 = .ok (.iload 6, 2) := by decide +kernel
theorem dX1_init_47 : decode cX1_init 47 = .ok (.iadd, 1) := by decide +kernel
theorem dX1_init_48 : decode cX1_init 48 = .ok (.invokevirtual 24, 3) := by decide +kernel
theorem dX1_init_51 : decode cX1_init 51 = .ok (.iastore, 1) := by decide +kernel
theorem dX1_init_52 : decode cX1_init 52 = .ok (.iinc 6 1, 3) := by decide +kernel
theorem dX1_init_55 : decode cX1_init 55 = .ok (.goto (-25), 3) := by decide +kernel
theorem dX1_init_58 : decode cX1_init 58 = .ok (.aload_n 0, 1) := by decide +kernel
theorem dX1_init_59 : decode cX1_init 59 = .ok (.iload 4, 2) := by decide +kernel
theorem dX1_init_61 : decode cX1_init 61 = .ok (.putfield 30, 3) := by decide +kernel
theorem dX1_init_64 : decode cX1_init 64 = .ok (.return_, 1) := by decide +kernel
theorem dX1_encode_0 : decode cX1_encode 0 = .ok (.iconst 0, 1) := by decide +kernel
theorem dX1_encode_1 : decode cX1_encode 1 = .ok (.istore_n 2, 1) := by decide +kernel
theorem dX1_encode_2 : decode cX1_encode 2 = .ok (.iload_n 2, 1) := by decide +kernel
theorem dX1_encode_3 : decode cX1_encode 3 = .ok (.aload_n 0, 1) := by decide +kernel
theorem dX1_encode_4 : decode cX1_encode 4 = .ok (.getfield 15, 3) := by decide +kernel
theorem dX1_encode_7 : decode cX1_encode 7 = .ok (.arraylength, 1) := by decide +kernel
theorem dX1_encode_8 : decode cX1_encode 8 = .ok (.if_icmp .ge 34, 3) := by decide +kernel
theorem dX1_encode_11 : decode cX1_encode 11 = .ok (.iload_n 2, 1) := by decide +kernel
theorem dX1_encode_12 : decode cX1_encode 12 = .ok (.aload_n 0, 1) := by decide +kernel
theorem dX1_encode_13 : decode cX1_encode 13 = .ok (.getfield 21, 3) := by decide +kernel
theorem dX1_encode_16 : decode cX1_encode 16 = .ok (.arraylength, 1) := by decide +kernel
theorem dX1_encode_17 : decode cX1_encode 17 = .ok (.if_icmp .ge 25, 3) := by decide +kernel
theorem dX1_encode_20 : decode cX1_encode 20 = .ok (.aload_n 0, 1) := by decide +kernel
theorem dX1_encode_21 : decode cX1_encode 21 = .ok (.getfield 21, 3) := by decide +kernel
theorem dX1_encode_24 : decode cX1_encode 24 = .ok (.iload_n 2, 1) := by decide +kernel
theorem dX1_encode_25 : decode cX1_encode 25 = .ok (.aload_n 1, 1) := by decide +kernel
theorem dX1_encode_26 : decode cX1_encode 26 = .ok (.aload_n 0, 1) := by decide +kernel
theorem dX1_encode_27 : decode cX1_encode 27 = .ok (.getfield 15, 3) := by decide +kernel
theorem dX1_encode_30 : decode cX1_encode 30 = .ok (.iload_n 2, 1) := by decide +kernel
theorem dX1_encode_31 : decode cX1_encode 31 = .ok (.iaload, 1) := by decide +kernel
theorem dX1_encode_32 : decode cX1_encode 32 = .ok (.invokevirtual 34, 3) := by decide +kernel
theorem dX1_encode_35 : decode cX1_encode 35 = .ok (.iastore, 1) := by decide +kernel
theorem dX1_encode_36 : decode cX1_encode 36 = .ok (.iinc 2 1, 3) := by decide +kernel
theorem dX1_encode_39 : decode cX1_encode 39 = .ok (.goto (-37), 3) := by decide +kernel
theorem dX1_encode_42 : decode cX1_encode 42 = .ok (.return_, 1) := by decide +kernel
theorem dX1_letterAt_0 : decode cX1_letterAt 0 = .ok (.iload_n 1, 1) := by decide +kernel
theorem dX1_letterAt_1 : decode cX1_letterAt 1 = .ok (.ifCond .lt 21, 3) := by decide +kernel
theorem dX1_letterAt_4 : decode cX1_letterAt 4 = .ok (.iload_n 1, 1) := by decide +kernel
theorem dX1_letterAt_5 : decode cX1_letterAt 5 = .ok (.aload_n 0, 1) := by decide +kernel
theorem dX1_letterAt_6 : decode cX1_letterAt 6 = .ok (.getfield 15, 3) := by decide +kernel
theorem dX1_letterAt_9 : decode cX1_letterAt 9 = .ok (.arraylength, 1) := by decide +kernel
theorem dX1_letterAt_10 : decode cX1_letterAt 10 = .ok (.if_icmp .ge 12, 3) := by decide +kernel
theorem dX1_letterAt_13 : decode cX1_letterAt 13 = .ok (.aload_n 0, 1) := by decide +kernel
theorem dX1_letterAt_14 : decode cX1_letterAt 14 = .ok (.getfield 15, 3) := by decide +kernel
theorem dX1_letterAt_17 : decode cX1_letterAt 17 = .ok (.iload_n 1, 1) := by decide +kernel
theorem dX1_letterAt_18 : decode cX1_letterAt 18 = .ok (.iaload, 1) := by decide +kernel
theorem dX1_letterAt_19 : decode cX1_letterAt 19 = .ok (.goto 5, 3) := by decide +kernel
theorem dX1_letterAt_22 : decode cX1_letterAt 22 = .ok (.bipush (-101), 2) := by decide +kernel
theorem dX1_letterAt_24 : decode cX1_letterAt 24 = .ok (.ireturn, 1) := by decide +kernel
theorem dX1_digitAt_0 : decode cX1_digitAt 0 = .ok (.iload_n 1, 1) := by decide +kernel
theorem dX1_digitAt_1 : decode cX1_digitAt 1 = .ok (.ifCond .lt 21, 3) := by decide +kernel
theorem dX1_digitAt_4 : decode cX1_digitAt 4 = .ok (.iload_n 1, 1) := by decide +kernel
theorem dX1_digitAt_5 : decode cX1_digitAt 5 = .ok (.aload_n 0, 1) := by decide +kernel
theorem dX1_digitAt_6 : decode cX1_digitAt 6 = .ok (.getfield 21, 3) := by decide +kernel
theorem dX1_digitAt_9 : decode cX1_digitAt 9 = .ok (.arraylength, 1) := by decide +kernel
theorem dX1_digitAt_10 : decode cX1_digitAt 10 = .ok (.if_icmp .ge 12, 3) := by decide +kernel
theorem dX1_digitAt_13 : decode cX1_digitAt 13 = .ok (.aload_n 0, 1) := by decide +kernel
theorem dX1_digitAt_14 : decode cX1_digitAt 14 = .ok (.getfield 21, 3) := by decide +kernel
theorem dX1_digitAt_17 : decode cX1_digitAt 17 = .ok (.iload_n 1, 1) := by decide +kernel
theorem dX1_digitAt_18 : decode cX1_digitAt 18 = .ok (.iaload, 1) := by decide +kernel
theorem dX1_digitAt_19 : decode cX1_digitAt 19 = .ok (.goto 5, 3) := by decide +kernel
theorem dX1_digitAt_22 : decode cX1_digitAt 22 = .ok (.bipush (-101), 2) := by decide +kernel
theorem dX1_digitAt_24 : decode cX1_digitAt 24 = .ok (.ireturn, 1) := by decide +kernel
theorem dX1_comesBefore_0 : decode cX1_comesBefore 0 = .ok (.iconst 0, 1) := by decide +kernel
theorem dX1_comesBefore_1 : decode cX1_comesBefore 1 = .ok (.istore_n 2, 1) := by decide +kernel
theorem dX1_comesBefore_2 : decode cX1_comesBefore 2 = .ok (.iload_n 2, 1) := by decide +kernel
theorem dX1_comesBefore_3 : decode cX1_comesBefore 3 = .ok (.aload_n 0, 1) := by decide +kernel
theorem dX1_comesBefore_4 : decode cX1_comesBefore 4 = .ok (.getfield 15, 3) := by decide +kernel
theorem dX1_comesBefore_7 : decode cX1_comesBefore 7 = .ok (.arraylength, 1) := by decide +kernel
theorem dX1_comesBefore_8 : decode cX1_comesBefore 8 = .ok (.if_icmp .ge 54, 3) := by decide +kernel
theorem dX1_comesBefore_11 : decode cX1_comesBefore 11 = .ok (.iload_n 2, 1) := by decide +kernel
theorem dX1_comesBefore_12 : decode cX1_comesBefore 12 = .ok (.aload_n 1, 1) := by decide +kernel
theorem dX1_comesBefore_13 : decode cX1_comesBefore 13 = .ok (.getfield 15, 3) := by decide +kernel
theorem dX1_comesBefore_16 : decode cX1_comesBefore 16 = .ok (.arraylength, 1) := by decide +kernel
theorem dX1_comesBefore_17 : decode cX1_comesBefore 17 = .ok (.if_icmp .ge 45, 3) := by decide +kernel
theorem dX1_comesBefore_20 : decode cX1_comesBefore 20 = .ok (.aload_n 0, 1) := by decide +kernel
theorem dX1_comesBefore_21 : decode cX1_comesBefore 21 = .ok (.getfield 15, 3) := by decide +kernel
theorem dX1_comesBefore_24 : decode cX1_comesBefore 24 = .ok (.iload_n 2, 1) := by decide +kernel
theorem dX1_comesBefore_25 : decode cX1_comesBefore 25 = .ok (.iaload, 1) := by decide +kernel
theorem dX1_comesBefore_26 : decode cX1_comesBefore 26 = .ok (.aload_n 1, 1) := by decide +kernel
theorem dX1_comesBefore_27 : decode cX1_comesBefore 27 = .ok (.getfield 15, 3) := by decide +kernel
theorem dX1_comesBefore_30 : decode cX1_comesBefore 30 = .ok (.iload_n 2, 1) := by decide +kernel
theorem dX1_comesBefore_31 : decode cX1_comesBefore 31 = .ok (.iaload, 1) := by decide +kernel
theorem dX1_comesBefore_32 : decode cX1_comesBefore 32 = .ok (.if_icmp .eq 24, 3) := by decide +kernel
theorem dX1_comesBefore_35 : decode cX1_comesBefore 35 = .ok (.aload_n 0, 1) := by decide +kernel
theorem dX1_comesBefore_36 : decode cX1_comesBefore 36 = .ok (.getfield 15, 3) := by decide +kernel
theorem dX1_comesBefore_39 : decode cX1_comesBefore 39 = .ok (.iload_n 2, 1) := by decide +kernel
theorem dX1_comesBefore_40 : decode cX1_comesBefore 40 = .ok (.iaload, 1) := by decide +kernel
theorem dX1_comesBefore_41 : decode cX1_comesBefore 41 = .ok (.aload_n 1, 1) := by decide +kernel
theorem dX1_comesBefore_42 : decode cX1_comesBefore 42 = .ok (.getfield 15, 3) := by decide +kernel
theorem dX1_comesBefore_45 : decode cX1_comesBefore 45 = .ok (.iload_n 2, 1) := by decide +kernel
theorem dX1_comesBefore_46 : decode cX1_comesBefore 46 = .ok (.iaload, 1) := by decide +kernel
theorem dX1_comesBefore_47 : decode cX1_comesBefore 47 = .ok (.if_icmp .ge 7, 3) := by decide +kernel
theorem dX1_comesBefore_50 : decode cX1_comesBefore 50 = .ok (.iconst 1, 1) := by decide +kernel
theorem dX1_comesBefore_51 : decode cX1_comesBefore 51 = .ok (.goto 4, 3) := by decide +kernel
theorem dX1_comesBefore_54 : decode cX1_comesBefore 54 = .ok (.iconst 0, 1) := by decide +kernel
theorem dX1_comesBefore_55 : decode cX1_comesBefore 55 = .ok (.ireturn, 1) := by decide +kernel
theorem dX1_comesBefore_56 : decode cX1_comesBefore 56 = .ok (.iinc 2 1, 3) := by decide +kernel
theorem dX1_comesBefore_59 : decode cX1_comesBefore 59 = .ok (.goto (-57), 3) := by decide +kernel
theorem dX1_comesBefore_62 : decode cX1_comesBefore 62 = .ok (.aload_n 0, 1) := by decide +kernel
theorem dX1_comesBefore_63 : decode cX1_comesBefore 63 = .ok (.getfield 15, 3) := by decide +kernel
theorem dX1_comesBefore_66 : decode cX1_comesBefore 66 = .ok (.arraylength, 1) := by decide +kernel
theorem dX1_comesBefore_67 : decode cX1_comesBefore 67 = .ok (.aload_n 1, 1) := by decide +kernel
theorem dX1_comesBefore_68 : decode cX1_comesBefore 68 = .ok (.getfield 15, 3) := by decide +kernel
theorem dX1_comesBefore_71 : decode cX1_comesBefore 71 = .ok (.arraylength, 1) := by decide +kernel
theorem dX1_comesBefore_72 : decode cX1_comesBefore 72 = .ok (.if_icmp .ge 7, 3) := by decide +kernel
theorem dX1_comesBefore_75 : decode cX1_comesBefore 75 = .ok (.iconst 1, 1) := by decide +kernel
theorem dX1_comesBefore_76 : decode cX1_comesBefore 76 = .ok (.goto 4, 3) := by decide +kernel
theorem dX1_comesBefore_79 : decode cX1_comesBefore 79 = .ok (.iconst 0, 1) := by decide +kernel
theorem dX1_comesBefore_80 : decode cX1_comesBefore 80 = .ok (.ireturn, 1) := by decide +kernel
theorem dX1_isWritten_0 : decode cX1_isWritten 0 = .ok (.iload_n 3, 1) := by decide +kernel
theorem dX1_isWritten_1 : decode cX1_isWritten 1 = .ok (.aload_n 0, 1) := by decide +kernel
theorem dX1_isWritten_2 : decode cX1_isWritten 2 = .ok (.getfield 15, 3) := by decide +kernel
theorem dX1_isWritten_5 : decode cX1_isWritten 5 = .ok (.arraylength, 1) := by decide +kernel
theorem dX1_isWritten_6 : decode cX1_isWritten 6 = .ok (.if_icmp .eq 5, 3) := by decide +kernel
theorem dX1_isWritten_9 : decode cX1_isWritten 9 = .ok (.iconst 0, 1) := by decide +kernel
theorem dX1_isWritten_10 : decode cX1_isWritten 10 = .ok (.ireturn, 1) := by decide +kernel
theorem dX1_isWritten_11 : decode cX1_isWritten 11 = .ok (.iconst 0, 1) := by decide +kernel
theorem dX1_isWritten_12 : decode cX1_isWritten 12 = .ok (.istore 4, 2) := by decide +kernel
theorem dX1_isWritten_14 : decode cX1_isWritten 14 = .ok (.iload 4, 2) := by decide +kernel
theorem dX1_isWritten_16 : decode cX1_isWritten 16 = .ok (.iload_n 3, 1) := by decide +kernel
theorem dX1_isWritten_17 : decode cX1_isWritten 17 = .ok (.if_icmp .ge 29, 3) := by decide +kernel
theorem dX1_isWritten_20 : decode cX1_isWritten 20 = .ok (.aload_n 1, 1) := by decide +kernel
theorem dX1_isWritten_21 : decode cX1_isWritten 21 = .ok (.iload_n 2, 1) := by decide +kernel
theorem dX1_isWritten_22 : decode cX1_isWritten 22 = .ok (.iload 4, 2) := by decide +kernel
theorem dX1_isWritten_24 : decode cX1_isWritten 24 = .ok (.iadd, 1) := by decide +kernel
theorem dX1_isWritten_25 : decode cX1_isWritten 25 = .ok (.invokevirtual 24, 3) := by decide +kernel
theorem dX1_isWritten_28 : decode cX1_isWritten 28 = .ok (.aload_n 0, 1) := by decide +kernel
theorem dX1_isWritten_29 : decode cX1_isWritten 29 = .ok (.getfield 15, 3) := by decide +kernel
theorem dX1_isWritten_32 : decode cX1_isWritten 32 = .ok (.iload 4, 2) := by decide +kernel
theorem dX1_isWritten_34 : decode cX1_isWritten 34 = .ok (.iaload, 1) := by decide +kernel
theorem dX1_isWritten_35 : decode cX1_isWritten 35 = .ok (.if_icmp .eq 5, 3) := by decide +kernel
theorem dX1_isWritten_38 : decode cX1_isWritten 38 = .ok (.iconst 0, 1) := by decide +kernel
theorem dX1_isWritten_39 : decode cX1_isWritten 39 = .ok (.ireturn, 1) := by decide +kernel
theorem dX1_isWritten_40 : decode cX1_isWritten 40 = .ok (.iinc 4 1, 3) := by decide +kernel
theorem dX1_isWritten_43 : decode cX1_isWritten 43 = .ok (.goto (-29), 3) := by decide +kernel
theorem dX1_isWritten_46 : decode cX1_isWritten 46 = .ok (.iconst 1, 1) := by decide +kernel
theorem dX1_isWritten_47 : decode cX1_isWritten 47 = .ok (.ireturn, 1) := by decide +kernel
theorem dX1_sharedDigits_0 : decode cX1_sharedDigits 0 = .ok (.iconst 0, 1) := by decide +kernel
theorem dX1_sharedDigits_1 : decode cX1_sharedDigits 1 = .ok (.istore_n 2, 1) := by decide +kernel
theorem dX1_sharedDigits_2 : decode cX1_sharedDigits 2 = .ok (.iload_n 2, 1) := by decide +kernel
theorem dX1_sharedDigits_3 : decode cX1_sharedDigits 3 = .ok (.aload_n 0, 1) := by decide +kernel
theorem dX1_sharedDigits_4 : decode cX1_sharedDigits 4 = .ok (.getfield 21, 3) := by decide +kernel
theorem dX1_sharedDigits_7 : decode cX1_sharedDigits 7 = .ok (.arraylength, 1) := by decide +kernel
theorem dX1_sharedDigits_8 : decode cX1_sharedDigits 8 = .ok (.if_icmp .ge 33, 3) := by decide +kernel
theorem dX1_sharedDigits_11 : decode cX1_sharedDigits 11 = .ok (.iload_n 2, 1) := by decide +kernel
theorem dX1_sharedDigits_12 : decode cX1_sharedDigits 12 = .ok (.aload_n 1, 1) := by decide +kernel
theorem dX1_sharedDigits_13 : decode cX1_sharedDigits 13 = .ok (.getfield 21, 3) := by decide +kernel
theorem dX1_sharedDigits_16 : decode cX1_sharedDigits 16 = .ok (.arraylength, 1) := by decide +kernel
theorem dX1_sharedDigits_17 : decode cX1_sharedDigits 17 = .ok (.if_icmp .ge 24, 3) := by decide +kernel
theorem dX1_sharedDigits_20 : decode cX1_sharedDigits 20 = .ok (.aload_n 0, 1) := by decide +kernel
theorem dX1_sharedDigits_21 : decode cX1_sharedDigits 21 = .ok (.getfield 21, 3) := by decide +kernel
theorem dX1_sharedDigits_24 : decode cX1_sharedDigits 24 = .ok (.iload_n 2, 1) := by decide +kernel
theorem dX1_sharedDigits_25 : decode cX1_sharedDigits 25 = .ok (.iaload, 1) := by decide +kernel
theorem dX1_sharedDigits_26 : decode cX1_sharedDigits 26 = .ok (.aload_n 1, 1) := by decide +kernel
theorem dX1_sharedDigits_27 : decode cX1_sharedDigits 27 = .ok (.getfield 21, 3) := by decide +kernel
theorem dX1_sharedDigits_30 : decode cX1_sharedDigits 30 = .ok (.iload_n 2, 1) := by decide +kernel
theorem dX1_sharedDigits_31 : decode cX1_sharedDigits 31 = .ok (.iaload, 1) := by decide +kernel
theorem dX1_sharedDigits_32 : decode cX1_sharedDigits 32 = .ok (.if_icmp .ne 9, 3) := by decide +kernel
theorem dX1_sharedDigits_35 : decode cX1_sharedDigits 35 = .ok (.iinc 2 1, 3) := by decide +kernel
theorem dX1_sharedDigits_38 : decode cX1_sharedDigits 38 = .ok (.goto (-36), 3) := by decide +kernel
theorem dX1_sharedDigits_41 : decode cX1_sharedDigits 41 = .ok (.iload_n 2, 1) := by decide +kernel
theorem dX1_sharedDigits_42 : decode cX1_sharedDigits 42 = .ok (.ireturn, 1) := by decide +kernel
theorem dX1_beginsWith_0 : decode cX1_beginsWith 0 = .ok (.iconst 0, 1) := by decide +kernel
theorem dX1_beginsWith_1 : decode cX1_beginsWith 1 = .ok (.istore_n 2, 1) := by decide +kernel
theorem dX1_beginsWith_2 : decode cX1_beginsWith 2 = .ok (.iload_n 2, 1) := by decide +kernel
theorem dX1_beginsWith_3 : decode cX1_beginsWith 3 = .ok (.aload_n 1, 1) := by decide +kernel
theorem dX1_beginsWith_4 : decode cX1_beginsWith 4 = .ok (.invokevirtual 39, 3) := by decide +kernel
theorem dX1_beginsWith_7 : decode cX1_beginsWith 7 = .ok (.if_icmp .ge 24, 3) := by decide +kernel
theorem dX1_beginsWith_10 : decode cX1_beginsWith 10 = .ok (.aload_n 0, 1) := by decide +kernel
theorem dX1_beginsWith_11 : decode cX1_beginsWith 11 = .ok (.iload_n 2, 1) := by decide +kernel
theorem dX1_beginsWith_12 : decode cX1_beginsWith 12 = .ok (.invokevirtual 43, 3) := by decide +kernel
theorem dX1_beginsWith_15 : decode cX1_beginsWith 15 = .ok (.aload_n 1, 1) := by decide +kernel
theorem dX1_beginsWith_16 : decode cX1_beginsWith 16 = .ok (.iload_n 2, 1) := by decide +kernel
theorem dX1_beginsWith_17 : decode cX1_beginsWith 17 = .ok (.invokevirtual 24, 3) := by decide +kernel
theorem dX1_beginsWith_20 : decode cX1_beginsWith 20 = .ok (.if_icmp .eq 5, 3) := by decide +kernel
theorem dX1_beginsWith_23 : decode cX1_beginsWith 23 = .ok (.iconst 0, 1) := by decide +kernel
theorem dX1_beginsWith_24 : decode cX1_beginsWith 24 = .ok (.ireturn, 1) := by decide +kernel
theorem dX1_beginsWith_25 : decode cX1_beginsWith 25 = .ok (.iinc 2 1, 3) := by decide +kernel
theorem dX1_beginsWith_28 : decode cX1_beginsWith 28 = .ok (.goto (-26), 3) := by decide +kernel
theorem dX1_beginsWith_31 : decode cX1_beginsWith 31 = .ok (.iconst 1, 1) := by decide +kernel
theorem dX1_beginsWith_32 : decode cX1_beginsWith 32 = .ok (.ireturn, 1) := by decide +kernel
theorem dX1_isTypedAt_0 : decode cX1_isTypedAt 0 = .ok (.iconst 0, 1) := by decide +kernel
theorem dX1_isTypedAt_1 : decode cX1_isTypedAt 1 = .ok (.istore_n 3, 1) := by decide +kernel
theorem dX1_isTypedAt_2 : decode cX1_isTypedAt 2 = .ok (.iload_n 3, 1) := by decide +kernel
theorem dX1_isTypedAt_3 : decode cX1_isTypedAt 3 = .ok (.aload_n 0, 1) := by decide +kernel
theorem dX1_isTypedAt_4 : decode cX1_isTypedAt 4 = .ok (.getfield 21, 3) := by decide +kernel
theorem dX1_isTypedAt_7 : decode cX1_isTypedAt 7 = .ok (.arraylength, 1) := by decide +kernel
theorem dX1_isTypedAt_8 : decode cX1_isTypedAt 8 = .ok (.if_icmp .ge 27, 3) := by decide +kernel
theorem dX1_isTypedAt_11 : decode cX1_isTypedAt 11 = .ok (.aload_n 1, 1) := by decide +kernel
theorem dX1_isTypedAt_12 : decode cX1_isTypedAt 12 = .ok (.iload_n 2, 1) := by decide +kernel
theorem dX1_isTypedAt_13 : decode cX1_isTypedAt 13 = .ok (.iload_n 3, 1) := by decide +kernel
theorem dX1_isTypedAt_14 : decode cX1_isTypedAt 14 = .ok (.iadd, 1) := by decide +kernel
theorem dX1_isTypedAt_15 : decode cX1_isTypedAt 15 = .ok (.invokevirtual 24, 3) := by decide +kernel
theorem dX1_isTypedAt_18 : decode cX1_isTypedAt 18 = .ok (.aload_n 0, 1) := by decide +kernel
theorem dX1_isTypedAt_19 : decode cX1_isTypedAt 19 = .ok (.getfield 21, 3) := by decide +kernel
theorem dX1_isTypedAt_22 : decode cX1_isTypedAt 22 = .ok (.iload_n 3, 1) := by decide +kernel
theorem dX1_isTypedAt_23 : decode cX1_isTypedAt 23 = .ok (.iaload, 1) := by decide +kernel
theorem dX1_isTypedAt_24 : decode cX1_isTypedAt 24 = .ok (.if_icmp .eq 5, 3) := by decide +kernel
theorem dX1_isTypedAt_27 : decode cX1_isTypedAt 27 = .ok (.iconst 0, 1) := by decide +kernel
theorem dX1_isTypedAt_28 : decode cX1_isTypedAt 28 = .ok (.ireturn, 1) := by decide +kernel
theorem dX1_isTypedAt_29 : decode cX1_isTypedAt 29 = .ok (.iinc 3 1, 3) := by decide +kernel
theorem dX1_isTypedAt_32 : decode cX1_isTypedAt 32 = .ok (.goto (-30), 3) := by decide +kernel
theorem dX1_isTypedAt_35 : decode cX1_isTypedAt 35 = .ok (.iconst 1, 1) := by decide +kernel
theorem dX1_isTypedAt_36 : decode cX1_isTypedAt 36 = .ok (.ireturn, 1) := by decide +kernel
theorem dX2_init_0 : decode cX2_init 0 = .ok (.aload_n 0, 1) := by decide +kernel
theorem dX2_init_1 : decode cX2_init 1 = .ok (.invokespecial 3, 3) := by decide +kernel
theorem dX2_init_4 : decode cX2_init 4 = .ok (.aload_n 0, 1) := by decide +kernel
theorem dX2_init_5 : decode cX2_init 5 = .ok (.getstatic 9, 3) := by decide +kernel
theorem dX2_init_8 : decode cX2_init 8 = .ok (.invokevirtual 13, 3) := by decide +kernel
theorem dX2_init_11 : decode cX2_init 11 = .ok (.checkcast 14, 3) := by decide +kernel
theorem dX2_init_14 : decode cX2_init 14 = .ok (.putfield 18, 3) := by decide +kernel
theorem dX2_init_17 : decode cX2_init 17 = .ok (.aload_n 0, 1) := by decide +kernel
theorem dX2_init_18 : decode cX2_init 18 = .ok (.bipush 26, 2) := by decide +kernel
theorem dX2_init_20 : decode cX2_init 20 = .ok (.newarray .int, 2) := by decide +kernel
theorem dX2_init_22 : decode cX2_init 22 = .ok (.putfield 23, 3) := by decide +kernel
theorem dX2_init_25 : decode cX2_init 25 = .ok (.return_, 1) := by decide +kernel
theorem dX2_digitOf_0 : decode cX2_digitOf 0 = .ok (.iload_n 1, 1) := by decide +kernel
theorem dX2_digitOf_1 : decode cX2_digitOf 1 = .ok (.bipush 97, 2) := by decide +kernel
theorem dX2_digitOf_3 : decode cX2_digitOf 3 = .ok (.if_icmp .lt 21, 3) := by decide +kernel
theorem dX2_digitOf_6 : decode cX2_digitOf 6 = .ok (.iload_n 1, 1) := by decide +kernel
theorem dX2_digitOf_7 : decode cX2_digitOf 7 = .ok (.bipush 122, 2) := by decide +kernel
theorem dX2_digitOf_9 : decode cX2_digitOf 9 = .ok (.if_icmp .gt 15, 3) := by decide +kernel
theorem dX2_digitOf_12 : decode cX2_digitOf 12 = .ok (.aload_n 0, 1) := by decide +kernel
theorem dX2_digitOf_13 : decode cX2_digitOf 13 = .ok (.getfield 18, 3) := by decide +kernel
theorem dX2_digitOf_16 : decode cX2_digitOf 16 = .ok (.iload_n 1, 1) := by decide +kernel
theorem dX2_digitOf_17 : decode cX2_digitOf 17 = .ok (.bipush 97, 2) := by decide +kernel
theorem dX2_digitOf_19 : decode cX2_digitOf 19 = .ok (.isub, 1) := by decide +kernel
theorem dX2_digitOf_20 : decode cX2_digitOf 20 = .ok (.iaload, 1) := by decide +kernel
theorem dX2_digitOf_21 : decode cX2_digitOf 21 = .ok (.goto 5, 3) := by decide +kernel
theorem dX2_digitOf_24 : decode cX2_digitOf 24 = .ok (.bipush (-102), 2) := by decide +kernel
theorem dX2_digitOf_26 : decode cX2_digitOf 26 = .ok (.ireturn, 1) := by decide +kernel
theorem dX2_read_0 : decode cX2_read 0 = .ok (.iconst 0, 1) := by decide +kernel
theorem dX2_read_1 : decode cX2_read 1 = .ok (.istore_n 2, 1) := by decide +kernel
theorem dX2_read_2 : decode cX2_read 2 = .ok (.iconst 2, 1) := by decide +kernel
theorem dX2_read_3 : decode cX2_read 3 = .ok (.istore_n 3, 1) := by decide +kernel
theorem dX2_read_4 : decode cX2_read 4 = .ok (.iconst 0, 1) := by decide +kernel
theorem dX2_read_5 : decode cX2_read 5 = .ok (.istore 4, 2) := by decide +kernel
theorem dX2_read_7 : decode cX2_read 7 = .ok (.iconst 0, 1) := by decide +kernel
theorem dX2_read_8 : decode cX2_read 8 = .ok (.istore 5, 2) := by decide +kernel
theorem dX2_read_10 : decode cX2_read 10 = .ok (.iconst 0, 1) := by decide +kernel
theorem dX2_read_11 : decode cX2_read 11 = .ok (.istore 6, 2) := by decide +kernel
theorem dX2_read_13 : decode cX2_read 13 = .ok (.iload 6, 2) := by decide +kernel
theorem dX2_read_15 : decode cX2_read 15 = .ok (.aload_n 1, 1) := by decide +kernel
theorem dX2_read_16 : decode cX2_read 16 = .ok (.invokevirtual 26, 3) := by decide +kernel
theorem dX2_read_19 : decode cX2_read 19 = .ok (.if_icmp .ge 86, 3) := by decide +kernel
theorem dX2_read_22 : decode cX2_read 22 = .ok (.aload_n 1, 1) := by decide +kernel
theorem dX2_read_23 : decode cX2_read 23 = .ok (.iload 6, 2) := by decide +kernel
theorem dX2_read_25 : decode cX2_read 25 = .ok (.invokevirtual 32, 3) := by decide +kernel
theorem dX2_read_28 : decode cX2_read 28 = .ok (.istore 7, 2) := by decide +kernel
theorem dX2_read_30 : decode cX2_read 30 = .ok (.iload_n 2, 1) := by decide +kernel
theorem dX2_read_31 : decode cX2_read 31 = .ok (.bipush 26, 2) := by decide +kernel
theorem dX2_read_33 : decode cX2_read 33 = .ok (.if_icmp .ge 37, 3) := by decide +kernel
theorem dX2_read_36 : decode cX2_read 36 = .ok (.iload 7, 2) := by decide +kernel
theorem dX2_read_38 : decode cX2_read 38 = .ok (.bipush 97, 2) := by decide +kernel
theorem dX2_read_40 : decode cX2_read 40 = .ok (.iload_n 2, 1) := by decide +kernel
theorem dX2_read_41 : decode cX2_read 41 = .ok (.iadd, 1) := by decide +kernel
theorem dX2_read_42 : decode cX2_read 42 = .ok (.if_icmp .ne 28, 3) := by decide +kernel
theorem dX2_read_45 : decode cX2_read 45 = .ok (.aload_n 0, 1) := by decide +kernel
theorem dX2_read_46 : decode cX2_read 46 = .ok (.getfield 23, 3) := by decide +kernel
theorem dX2_read_49 : decode cX2_read 49 = .ok (.iload_n 2, 1) := by decide +kernel
theorem dX2_read_50 : decode cX2_read 50 = .ok (.iload_n 3, 1) := by decide +kernel
theorem dX2_read_51 : decode cX2_read 51 = .ok (.iastore, 1) := by decide +kernel
theorem dX2_read_52 : decode cX2_read 52 = .ok (.iinc 2 1, 3) := by decide +kernel
theorem dX2_read_55 : decode cX2_read 55 = .ok (.iinc 4 1, 3) := by decide +kernel
theorem dX2_read_58 : decode cX2_read 58 = .ok (.iload 5, 2) := by decide +kernel
theorem dX2_read_60 : decode cX2_read 60 = .ok (.iload 4, 2) := by decide +kernel
theorem dX2_read_62 : decode cX2_read 62 = .ok (.invokestatic 36, 3) := by decide +kernel
theorem dX2_read_65 : decode cX2_read 65 = .ok (.istore 5, 2) := by decide +kernel
theorem dX2_read_67 : decode cX2_read 67 = .ok (.goto 32, 3) := by decide +kernel
theorem dX2_read_70 : decode cX2_read 70 = .ok (.iload 7, 2) := by decide +kernel
theorem dX2_read_72 : decode cX2_read 72 = .ok (.bipush 44, 2) := by decide +kernel
theorem dX2_read_74 : decode cX2_read 74 = .ok (.if_icmp .ne 23, 3) := by decide +kernel
theorem dX2_read_77 : decode cX2_read 77 = .ok (.iload 4, 2) := by decide +kernel
theorem dX2_read_79 : decode cX2_read 79 = .ok (.ifCond .le 18, 3) := by decide +kernel
theorem dX2_read_82 : decode cX2_read 82 = .ok (.iload_n 3, 1) := by decide +kernel
theorem dX2_read_83 : decode cX2_read 83 = .ok (.bipush 9, 2) := by decide +kernel
theorem dX2_read_85 : decode cX2_read 85 = .ok (.if_icmp .ge 12, 3) := by decide +kernel
theorem dX2_read_88 : decode cX2_read 88 = .ok (.iinc 3 1, 3) := by decide +kernel
theorem dX2_read_91 : decode cX2_read 91 = .ok (.iconst 0, 1) := by decide +kernel
theorem dX2_read_92 : decode cX2_read 92 = .ok (.istore 4, 2) := by decide +kernel
theorem dX2_read_94 : decode cX2_read 94 = .ok (.goto 5, 3) := by decide +kernel
theorem dX2_read_97 : decode cX2_read 97 = .ok (.iconst 0, 1) := by decide +kernel
theorem dX2_read_98 : decode cX2_read 98 = .ok (.ireturn, 1) := by decide +kernel
theorem dX2_read_99 : decode cX2_read 99 = .ok (.iinc 6 1, 3) := by decide +kernel
theorem dX2_read_102 : decode cX2_read 102 = .ok (.goto (-89), 3) := by decide +kernel
theorem dX2_read_105 : decode cX2_read 105 = .ok (.iload_n 2, 1) := by decide +kernel
theorem dX2_read_106 : decode cX2_read 106 = .ok (.bipush 26, 2) := by decide +kernel
theorem dX2_read_108 : decode cX2_read 108 = .ok (.if_icmp .lt 14, 3) := by decide +kernel
theorem dX2_read_111 : decode cX2_read 111 = .ok (.iload_n 3, 1) := by decide +kernel
theorem dX2_read_112 : decode cX2_read 112 = .ok (.bipush 9, 2) := by decide +kernel
theorem dX2_read_114 : decode cX2_read 114 = .ok (.if_icmp .lt 8, 3) := by decide +kernel
theorem dX2_read_117 : decode cX2_read 117 = .ok (.iload 4, 2) := by decide +kernel
theorem dX2_read_119 : decode cX2_read 119 = .ok (.ifCond .ne 5, 3) := by decide +kernel
theorem dX2_read_122 : decode cX2_read 122 = .ok (.iconst 0, 1) := by decide +kernel
theorem dX2_read_123 : decode cX2_read 123 = .ok (.ireturn, 1) := by decide +kernel
theorem dX2_read_124 : decode cX2_read 124 = .ok (.aload_n 0, 1) := by decide +kernel
theorem dX2_read_125 : decode cX2_read 125 = .ok (.getfield 23, 3) := by decide +kernel
theorem dX2_read_128 : decode cX2_read 128 = .ok (.iconst 0, 1) := by decide +kernel
theorem dX2_read_129 : decode cX2_read 129 = .ok (.aload_n 0, 1) := by decide +kernel
theorem dX2_read_130 : decode cX2_read 130 = .ok (.getfield 18, 3) := by decide +kernel
theorem dX2_read_133 : decode cX2_read 133 = .ok (.iconst 0, 1) := by decide +kernel
theorem dX2_read_134 : decode cX2_read 134 = .ok (.bipush 26, 2) := by decide +kernel
theorem dX2_read_136 : decode cX2_read 136 = .ok (.invokestatic 42, 3) := by decide +kernel
theorem dX2_read_139 : decode cX2_read 139 = .ok (.iload 5, 2) := by decide +kernel
theorem dX2_read_141 : decode cX2_read 141 = .ok (.ireturn, 1) := by decide +kernel
theorem dX3_init_0 : decode cX3_init 0 = .ok (.aload_n 0, 1) := by decide +kernel
theorem dX3_init_1 : decode cX3_init 1 = .ok (.invokespecial 3, 3) := by decide +kernel
theorem dX3_init_4 : decode cX3_init 4 = .ok (.aload_n 0, 1) := by decide +kernel
theorem dX3_init_5 : decode cX3_init 5 = .ok (.bipush 50, 2) := by decide +kernel
theorem dX3_init_7 : decode cX3_init 7 = .ok (.newarray .int, 2) := by decide +kernel
theorem dX3_init_9 : decode cX3_init 9 = .ok (.putfield 9, 3) := by decide +kernel
theorem dX3_init_12 : decode cX3_init 12 = .ok (.aload_n 0, 1) := by decide +kernel
theorem dX3_init_13 : decode cX3_init 13 = .ok (.bipush 50, 2) := by decide +kernel
theorem dX3_init_15 : decode cX3_init 15 = .ok (.newarray .int, 2) := by decide +kernel
theorem dX3_init_17 : decode cX3_init 17 = .ok (.putfield 15, 3) := by decide +kernel
theorem dX3_init_20 : decode cX3_init 20 = .ok (.aload_n 0, 1) := by decide +kernel
theorem dX3_init_21 : decode cX3_init 21 = .ok (.bipush 50, 2) := by decide +kernel
theorem dX3_init_23 : decode cX3_init 23 = .ok (.newarray .int, 2) := by decide +kernel
theorem dX3_init_25 : decode cX3_init 25 = .ok (.putfield 18, 3) := by decide +kernel
theorem dX3_init_28 : decode cX3_init 28 = .ok (.return_, 1) := by decide +kernel
theorem dX3_items_0 : decode cX3_items 0 = .ok (.aload_n 0, 1) := by decide +kernel
theorem dX3_items_1 : decode cX3_items 1 = .ok (.getfield 21, 3) := by decide +kernel
theorem dX3_items_4 : decode cX3_items 4 = .ok (.ireturn, 1) := by decide +kernel
theorem dX3_startOf_0 : decode cX3_startOf 0 = .ok (.iload_n 1, 1) := by decide +kernel
theorem dX3_startOf_1 : decode cX3_startOf 1 = .ok (.ifCond .lt 20, 3) := by decide +kernel
theorem dX3_startOf_4 : decode cX3_startOf 4 = .ok (.iload_n 1, 1) := by decide +kernel
theorem dX3_startOf_5 : decode cX3_startOf 5 = .ok (.aload_n 0, 1) := by decide +kernel
theorem dX3_startOf_6 : decode cX3_startOf 6 = .ok (.getfield 21, 3) := by decide +kernel
theorem dX3_startOf_9 : decode cX3_startOf 9 = .ok (.if_icmp .ge 12, 3) := by decide +kernel
theorem dX3_startOf_12 : decode cX3_startOf 12 = .ok (.aload_n 0, 1) := by decide +kernel
theorem dX3_startOf_13 : decode cX3_startOf 13 = .ok (.getfield 9, 3) := by decide +kernel
theorem dX3_startOf_16 : decode cX3_startOf 16 = .ok (.iload_n 1, 1) := by decide +kernel
theorem dX3_startOf_17 : decode cX3_startOf 17 = .ok (.iaload, 1) := by decide +kernel
theorem dX3_startOf_18 : decode cX3_startOf 18 = .ok (.goto 4, 3) := by decide +kernel
theorem dX3_startOf_21 : decode cX3_startOf 21 = .ok (.iconst 0, 1) := by decide +kernel
theorem dX3_startOf_22 : decode cX3_startOf 22 = .ok (.ireturn, 1) := by decide +kernel
theorem dX3_lengthOf_0 : decode cX3_lengthOf 0 = .ok (.iload_n 1, 1) := by decide +kernel
theorem dX3_lengthOf_1 : decode cX3_lengthOf 1 = .ok (.ifCond .lt 20, 3) := by decide +kernel
theorem dX3_lengthOf_4 : decode cX3_lengthOf 4 = .ok (.iload_n 1, 1) := by decide +kernel
theorem dX3_lengthOf_5 : decode cX3_lengthOf 5 = .ok (.aload_n 0, 1) := by decide +kernel
theorem dX3_lengthOf_6 : decode cX3_lengthOf 6 = .ok (.getfield 21, 3) := by decide +kernel
theorem dX3_lengthOf_9 : decode cX3_lengthOf 9 = .ok (.if_icmp .ge 12, 3) := by decide +kernel
theorem dX3_lengthOf_12 : decode cX3_lengthOf 12 = .ok (.aload_n 0, 1) := by decide +kernel
theorem dX3_lengthOf_13 : decode cX3_lengthOf 13 = .ok (.getfield 15, 3) := by decide +kernel
theorem dX3_lengthOf_16 : decode cX3_lengthOf 16 = .ok (.iload_n 1, 1) := by decide +kernel
theorem dX3_lengthOf_17 : decode cX3_lengthOf 17 = .ok (.iaload, 1) := by decide +kernel
theorem dX3_lengthOf_18 : decode cX3_lengthOf 18 = .ok (.goto 4, 3) := by decide +kernel
theorem dX3_lengthOf_21 : decode cX3_lengthOf 21 = .ok (.iconst 0, 1) := by decide +kernel
theorem dX3_lengthOf_22 : decode cX3_lengthOf 22 = .ok (.ireturn, 1) := by decide +kernel
theorem dX3_entryOf_0 : decode cX3_entryOf 0 = .ok (.new 25, 3) := by decide +kernel
theorem dX3_entryOf_3 : decode cX3_entryOf 3 = .ok (.dup, 1) := by decide +kernel
theorem dX3_entryOf_4 : decode cX3_entryOf 4 = .ok (.aload_n 1, 1) := by decide +kernel
theorem dX3_entryOf_5 : decode cX3_entryOf 5 = .ok (.aload_n 0, 1) := by decide +kernel
theorem dX3_entryOf_6 : decode cX3_entryOf 6 = .ok (.iload_n 2, 1) := by decide +kernel
theorem dX3_entryOf_7 : decode cX3_entryOf 7 = .ok (.invokevirtual 27, 3) := by decide +kernel
theorem dX3_entryOf_10 : decode cX3_entryOf 10 = .ok (.aload_n 0, 1) := by decide +kernel
theorem dX3_entryOf_11 : decode cX3_entryOf 11 = .ok (.iload_n 2, 1) := by decide +kernel
theorem dX3_entryOf_12 : decode cX3_entryOf 12 = .ok (.invokevirtual 31, 3) := by decide +kernel
theorem dX3_entryOf_15 : decode cX3_entryOf 15 = .ok (.aload_n 0, 1) := by decide +kernel
theorem dX3_entryOf_16 : decode cX3_entryOf 16 = .ok (.iload_n 2, 1) := by decide +kernel
theorem dX3_entryOf_17 : decode cX3_entryOf 17 = .ok (.invokevirtual 34, 3) := by decide +kernel
theorem dX3_entryOf_20 : decode cX3_entryOf 20 = .ok (.invokespecial 37, 3) := by decide +kernel
theorem dX3_entryOf_23 : decode cX3_entryOf 23 = .ok (.areturn, 1) := by decide +kernel
theorem dX3_frequencyOf_0 : decode cX3_frequencyOf 0 = .ok (.iload_n 1, 1) := by decide +kernel
theorem dX3_frequencyOf_1 : decode cX3_frequencyOf 1 = .ok (.ifCond .lt 20, 3) := by decide +kernel
theorem dX3_frequencyOf_4 : decode cX3_frequencyOf 4 = .ok (.iload_n 1, 1) := by decide +kernel
theorem dX3_frequencyOf_5 : decode cX3_frequencyOf 5 = .ok (.aload_n 0, 1) := by decide +kernel
theorem dX3_frequencyOf_6 : decode cX3_frequencyOf 6 = .ok (.getfield 21, 3) := by decide +kernel
theorem dX3_frequencyOf_9 : decode cX3_frequencyOf 9 = .ok (.if_icmp .ge 12, 3) := by decide +kernel
theorem dX3_frequencyOf_12 : decode cX3_frequencyOf 12 = .ok (.aload_n 0, 1) := by decide +kernel
theorem dX3_frequencyOf_13 : decode cX3_frequencyOf 13 = .ok (.getfield 18, 3) := by decide +kernel
theorem dX3_frequencyOf_16 : decode cX3_frequencyOf 16 = .ok (.iload_n 1, 1) := by decide +kernel
theorem dX3_frequencyOf_17 : decode cX3_frequencyOf 17 = .ok (.iaload, 1) := by decide +kernel
theorem dX3_frequencyOf_18 : decode cX3_frequencyOf 18 = .ok (.goto 4, 3) := by decide +kernel
theorem dX3_frequencyOf_21 : decode cX3_frequencyOf 21 = .ok (.iconst 0, 1) := by decide +kernel
theorem dX3_frequencyOf_22 : decode cX3_frequencyOf 22 = .ok (.ireturn, 1) := by decide +kernel
theorem dX3_endsWithItem_0 : decode cX3_endsWithItem 0 = .ok (.aload_n 0, 1) := by decide +kernel
theorem dX3_endsWithItem_1 : decode cX3_endsWithItem 1 = .ok (.getfield 40, 3) := by decide +kernel
theorem dX3_endsWithItem_4 : decode cX3_endsWithItem 4 = .ok (.ifCond .eq 20, 3) := by decide +kernel
theorem dX3_endsWithItem_7 : decode cX3_endsWithItem 7 = .ok (.aload_n 0, 1) := by decide +kernel
theorem dX3_endsWithItem_8 : decode cX3_endsWithItem 8 = .ok (.aload_n 0, 1) := by decide +kernel
theorem dX3_endsWithItem_9 : decode cX3_endsWithItem 9 = .ok (.getfield 21, 3) := by decide +kernel
theorem dX3_endsWithItem_12 : decode cX3_endsWithItem 12 = .ok (.iconst 1, 1) := by decide +kernel
theorem dX3_endsWithItem_13 : decode cX3_endsWithItem 13 = .ok (.isub, 1) := by decide +kernel
theorem dX3_endsWithItem_14 : decode cX3_endsWithItem 14 = .ok (.invokevirtual 34, 3) := by decide +kernel
theorem dX3_endsWithItem_17 : decode cX3_endsWithItem 17 = .ok (.ifCond .le 7, 3) := by decide +kernel
theorem dX3_endsWithItem_20 : decode cX3_endsWithItem 20 = .ok (.iconst 1, 1) := by decide +kernel
theorem dX3_endsWithItem_21 : decode cX3_endsWithItem 21 = .ok (.goto 4, 3) := by decide +kernel
theorem dX3_endsWithItem_24 : decode cX3_endsWithItem 24 = .ok (.iconst 0, 1) := by decide +kernel
theorem dX3_endsWithItem_25 : decode cX3_endsWithItem 25 = .ok (.ireturn, 1) := by decide +kernel
theorem dX3_scan_0 : decode cX3_scan 0 = .ok (.aload_n 0, 1) := by decide +kernel
theorem dX3_scan_1 : decode cX3_scan 1 = .ok (.iconst 0, 1) := by decide +kernel
theorem dX3_scan_2 : decode cX3_scan 2 = .ok (.putfield 21, 3) := by decide +kernel
theorem dX3_scan_5 : decode cX3_scan 5 = .ok (.aload_n 0, 1) := by decide +kernel
theorem dX3_scan_6 : decode cX3_scan 6 = .ok (.iconst 0, 1) := by decide +kernel
theorem dX3_scan_7 : decode cX3_scan 7 = .ok (.putfield 44, 3) := by decide +kernel
theorem dX3_scan_10 : decode cX3_scan 10 = .ok (.aload_n 0, 1) := by decide +kernel
theorem dX3_scan_11 : decode cX3_scan 11 = .ok (.iconst 0, 1) := by decide +kernel
theorem dX3_scan_12 : decode cX3_scan 12 = .ok (.putfield 40, 3) := by decide +kernel
theorem dX3_scan_15 : decode cX3_scan 15 = .ok (.iconst 0, 1) := by decide +kernel
theorem dX3_scan_16 : decode cX3_scan 16 = .ok (.istore_n 2, 1) := by decide +kernel
theorem dX3_scan_17 : decode cX3_scan 17 = .ok (.iload_n 2, 1) := by decide +kernel
theorem dX3_scan_18 : decode cX3_scan 18 = .ok (.aload_n 1, 1) := by decide +kernel
theorem dX3_scan_19 : decode cX3_scan 19 = .ok (.invokevirtual 47, 3) := by decide +kernel
theorem dX3_scan_22 : decode cX3_scan 22 = .ok (.if_icmp .ge 46, 3) := by decide +kernel
theorem dX3_scan_25 : decode cX3_scan 25 = .ok (.aload_n 1, 1) := by decide +kernel
theorem dX3_scan_26 : decode cX3_scan 26 = .ok (.iload_n 2, 1) := by decide +kernel
theorem dX3_scan_27 : decode cX3_scan 27 = .ok (.invokevirtual 53, 3) := by decide +kernel
theorem dX3_scan_30 : decode cX3_scan 30 = .ok (.istore_n 3, 1) := by decide +kernel
theorem dX3_scan_31 : decode cX3_scan 31 = .ok (.aload_n 0, 1) := by decide +kernel
theorem dX3_scan_32 : decode cX3_scan 32 = .ok (.getfield 40, 3) := by decide +kernel
theorem dX3_scan_35 : decode cX3_scan 35 = .ok (.ifCond .eq 12, 3) := by decide +kernel
theorem dX3_scan_38 : decode cX3_scan 38 = .ok (.aload_n 0, 1) := by decide +kernel
theorem dX3_scan_39 : decode cX3_scan 39 = .ok (.iload_n 3, 1) := by decide +kernel
theorem dX3_scan_40 : decode cX3_scan 40 = .ok (.iload_n 2, 1) := by decide +kernel
theorem dX3_scan_41 : decode cX3_scan 41 = .ok (.invokevirtual 56, 3) := by decide +kernel
theorem dX3_scan_44 : decode cX3_scan 44 = .ok (.goto 9, 3) := by decide +kernel
theorem dX3_scan_47 : decode cX3_scan 47 = .ok (.aload_n 0, 1) := by decide +kernel
theorem dX3_scan_48 : decode cX3_scan 48 = .ok (.aload_n 1, 1) := by decide +kernel
theorem dX3_scan_49 : decode cX3_scan 49 = .ok (.iload_n 2, 1) := by decide +kernel
theorem dX3_scan_50 : decode cX3_scan 50 = .ok (.invokevirtual 60, 3) := by decide +kernel
theorem dX3_scan_53 : decode cX3_scan 53 = .ok (.istore 4, 2) := by decide +kernel
theorem dX3_scan_55 : decode cX3_scan 55 = .ok (.iload 4, 2) := by decide +kernel
theorem dX3_scan_57 : decode cX3_scan 57 = .ok (.ifCond .ne 5, 3) := by decide +kernel
theorem dX3_scan_60 : decode cX3_scan 60 = .ok (.iload_n 2, 1) := by decide +kernel
theorem dX3_scan_61 : decode cX3_scan 61 = .ok (.ireturn, 1) := by decide +kernel
theorem dX3_scan_62 : decode cX3_scan 62 = .ok (.iinc 2 1, 3) := by decide +kernel
theorem dX3_scan_65 : decode cX3_scan 65 = .ok (.goto (-48), 3) := by decide +kernel
theorem dX3_scan_68 : decode cX3_scan 68 = .ok (.aload_n 1, 1) := by decide +kernel
theorem dX3_scan_69 : decode cX3_scan 69 = .ok (.invokevirtual 47, 3) := by decide +kernel
theorem dX3_scan_72 : decode cX3_scan 72 = .ok (.ireturn, 1) := by decide +kernel
theorem dX3_fitsName_0 : decode cX3_fitsName 0 = .ok (.aload_n 1, 1) := by decide +kernel
theorem dX3_fitsName_1 : decode cX3_fitsName 1 = .ok (.iload_n 2, 1) := by decide +kernel
theorem dX3_fitsName_2 : decode cX3_fitsName 2 = .ok (.invokevirtual 53, 3) := by decide +kernel
theorem dX3_fitsName_5 : decode cX3_fitsName 5 = .ok (.istore_n 3, 1) := by decide +kernel
theorem dX3_fitsName_6 : decode cX3_fitsName 6 = .ok (.iload_n 3, 1) := by decide +kernel
theorem dX3_fitsName_7 : decode cX3_fitsName 7 = .ok (.bipush 58, 2) := by decide +kernel
theorem dX3_fitsName_9 : decode cX3_fitsName 9 = .ok (.if_icmp .ne 10, 3) := by decide +kernel
theorem dX3_fitsName_12 : decode cX3_fitsName 12 = .ok (.aload_n 0, 1) := by decide +kernel
theorem dX3_fitsName_13 : decode cX3_fitsName 13 = .ok (.aload_n 1, 1) := by decide +kernel
theorem dX3_fitsName_14 : decode cX3_fitsName 14 = .ok (.iload_n 2, 1) := by decide +kernel
theorem dX3_fitsName_15 : decode cX3_fitsName 15 = .ok (.invokevirtual 64, 3) := by decide +kernel
theorem dX3_fitsName_18 : decode cX3_fitsName 18 = .ok (.ireturn, 1) := by decide +kernel
theorem dX3_fitsName_19 : decode cX3_fitsName 19 = .ok (.iload_n 3, 1) := by decide +kernel
theorem dX3_fitsName_20 : decode cX3_fitsName 20 = .ok (.bipush 97, 2) := by decide +kernel
theorem dX3_fitsName_22 : decode cX3_fitsName 22 = .ok (.if_icmp .lt 24, 3) := by decide +kernel
theorem dX3_fitsName_25 : decode cX3_fitsName 25 = .ok (.iload_n 3, 1) := by decide +kernel
theorem dX3_fitsName_26 : decode cX3_fitsName 26 = .ok (.bipush 122, 2) := by decide +kernel
theorem dX3_fitsName_28 : decode cX3_fitsName 28 = .ok (.if_icmp .gt 18, 3) := by decide +kernel
theorem dX3_fitsName_31 : decode cX3_fitsName 31 = .ok (.iload_n 2, 1) := by decide +kernel
theorem dX3_fitsName_32 : decode cX3_fitsName 32 = .ok (.aload_n 0, 1) := by decide +kernel
theorem dX3_fitsName_33 : decode cX3_fitsName 33 = .ok (.getfield 44, 3) := by decide +kernel
theorem dX3_fitsName_36 : decode cX3_fitsName 36 = .ok (.isub, 1) := by decide +kernel
theorem dX3_fitsName_37 : decode cX3_fitsName 37 = .ok (.bipush 8, 2) := by decide +kernel
theorem dX3_fitsName_39 : decode cX3_fitsName 39 = .ok (.if_icmp .ge 7, 3) := by decide +kernel
theorem dX3_fitsName_42 : decode cX3_fitsName 42 = .ok (.iconst 1, 1) := by decide +kernel
theorem dX3_fitsName_43 : decode cX3_fitsName 43 = .ok (.goto 4, 3) := by decide +kernel
theorem dX3_fitsName_46 : decode cX3_fitsName 46 = .ok (.iconst 0, 1) := by decide +kernel
theorem dX3_fitsName_47 : decode cX3_fitsName 47 = .ok (.ireturn, 1) := by decide +kernel
theorem dX3_endsName_0 : decode cX3_endsName 0 = .ok (.iload_n 2, 1) := by decide +kernel
theorem dX3_endsName_1 : decode cX3_endsName 1 = .ok (.aload_n 0, 1) := by decide +kernel
theorem dX3_endsName_2 : decode cX3_endsName 2 = .ok (.getfield 44, 3) := by decide +kernel
theorem dX3_endsName_5 : decode cX3_endsName 5 = .ok (.isub, 1) := by decide +kernel
theorem dX3_endsName_6 : decode cX3_endsName 6 = .ok (.istore_n 3, 1) := by decide +kernel
theorem dX3_endsName_7 : decode cX3_endsName 7 = .ok (.iload_n 3, 1) := by decide +kernel
theorem dX3_endsName_8 : decode cX3_endsName 8 = .ok (.ifCond .eq 21, 3) := by decide +kernel
theorem dX3_endsName_11 : decode cX3_endsName 11 = .ok (.aload_n 0, 1) := by decide +kernel
theorem dX3_endsName_12 : decode cX3_endsName 12 = .ok (.aload_n 1, 1) := by decide +kernel
theorem dX3_endsName_13 : decode cX3_endsName 13 = .ok (.iload_n 3, 1) := by decide +kernel
theorem dX3_endsName_14 : decode cX3_endsName 14 = .ok (.invokevirtual 67, 3) := by decide +kernel
theorem dX3_endsName_17 : decode cX3_endsName 17 = .ok (.ifCond .ne 12, 3) := by decide +kernel
theorem dX3_endsName_20 : decode cX3_endsName 20 = .ok (.aload_n 0, 1) := by decide +kernel
theorem dX3_endsName_21 : decode cX3_endsName 21 = .ok (.getfield 21, 3) := by decide +kernel
theorem dX3_endsName_24 : decode cX3_endsName 24 = .ok (.bipush 50, 2) := by decide +kernel
theorem dX3_endsName_26 : decode cX3_endsName 26 = .ok (.if_icmp .lt 5, 3) := by decide +kernel
theorem dX3_endsName_29 : decode cX3_endsName 29 = .ok (.iconst 0, 1) := by decide +kernel
theorem dX3_endsName_30 : decode cX3_endsName 30 = .ok (.ireturn, 1) := by decide +kernel
theorem dX3_endsName_31 : decode cX3_endsName 31 = .ok (.aload_n 0, 1) := by decide +kernel
theorem dX3_endsName_32 : decode cX3_endsName 32 = .ok (.getfield 9, 3) := by decide +kernel
theorem dX3_endsName_35 : decode cX3_endsName 35 = .ok (.aload_n 0, 1) := by decide +kernel
theorem dX3_endsName_36 : decode cX3_endsName 36 = .ok (.getfield 21, 3) := by decide +kernel
theorem dX3_endsName_39 : decode cX3_endsName 39 = .ok (.aload_n 0, 1) := by decide +kernel
theorem dX3_endsName_40 : decode cX3_endsName 40 = .ok (.getfield 44, 3) := by decide +kernel
theorem dX3_endsName_43 : decode cX3_endsName 43 = .ok (.iastore, 1) := by decide +kernel
theorem dX3_endsName_44 : decode cX3_endsName 44 = .ok (.aload_n 0, 1) := by decide +kernel
theorem dX3_endsName_45 : decode cX3_endsName 45 = .ok (.getfield 15, 3) := by decide +kernel
theorem dX3_endsName_48 : decode cX3_endsName 48 = .ok (.aload_n 0, 1) := by decide +kernel
theorem dX3_endsName_49 : decode cX3_endsName 49 = .ok (.getfield 21, 3) := by decide +kernel
theorem dX3_endsName_52 : decode cX3_endsName 52 = .ok (.iload_n 3, 1) := by decide +kernel
theorem dX3_endsName_53 : decode cX3_endsName 53 = .ok (.iastore, 1) := by decide +kernel
theorem dX3_endsName_54 : decode cX3_endsName 54 = .ok (.aload_n 0, 1) := by decide +kernel
theorem dX3_endsName_55 : decode cX3_endsName 55 = .ok (.getfield 18, 3) := by decide +kernel
theorem dX3_endsName_58 : decode cX3_endsName 58 = .ok (.aload_n 0, 1) := by decide +kernel
theorem dX3_endsName_59 : decode cX3_endsName 59 = .ok (.getfield 21, 3) := by decide +kernel
theorem dX3_endsName_62 : decode cX3_endsName 62 = .ok (.iconst 0, 1) := by decide +kernel
theorem dX3_endsName_63 : decode cX3_endsName 63 = .ok (.iastore, 1) := by decide +kernel
theorem dX3_endsName_64 : decode cX3_endsName 64 = .ok (.aload_n 0, 1) := by decide +kernel
theorem dX3_endsName_65 : decode cX3_endsName 65 = .ok (.dup, 1) := by decide +kernel
theorem dX3_endsName_66 : decode cX3_endsName 66 = .ok (.getfield 21, 3) := by decide +kernel
theorem dX3_endsName_69 : decode cX3_endsName 69 = .ok (.iconst 1, 1) := by decide +kernel
theorem dX3_endsName_70 : decode cX3_endsName 70 = .ok (.iadd, 1) := by decide +kernel
theorem dX3_endsName_71 : decode cX3_endsName 71 = .ok (.putfield 21, 3) := by decide +kernel
theorem dX3_endsName_74 : decode cX3_endsName 74 = .ok (.aload_n 0, 1) := by decide +kernel
theorem dX3_endsName_75 : decode cX3_endsName 75 = .ok (.iconst 1, 1) := by decide +kernel
theorem dX3_endsName_76 : decode cX3_endsName 76 = .ok (.putfield 40, 3) := by decide +kernel
theorem dX3_endsName_79 : decode cX3_endsName 79 = .ok (.iconst 1, 1) := by decide +kernel
theorem dX3_endsName_80 : decode cX3_endsName 80 = .ok (.ireturn, 1) := by decide +kernel
theorem dX3_isListed_0 : decode cX3_isListed 0 = .ok (.iconst 0, 1) := by decide +kernel
theorem dX3_isListed_1 : decode cX3_isListed 1 = .ok (.istore_n 3, 1) := by decide +kernel
theorem dX3_isListed_2 : decode cX3_isListed 2 = .ok (.iload_n 3, 1) := by decide +kernel
theorem dX3_isListed_3 : decode cX3_isListed 3 = .ok (.aload_n 0, 1) := by decide +kernel
theorem dX3_isListed_4 : decode cX3_isListed 4 = .ok (.getfield 21, 3) := by decide +kernel
theorem dX3_isListed_7 : decode cX3_isListed 7 = .ok (.if_icmp .ge 36, 3) := by decide +kernel
theorem dX3_isListed_10 : decode cX3_isListed 10 = .ok (.aload_n 0, 1) := by decide +kernel
theorem dX3_isListed_11 : decode cX3_isListed 11 = .ok (.getfield 15, 3) := by decide +kernel
theorem dX3_isListed_14 : decode cX3_isListed 14 = .ok (.iload_n 3, 1) := by decide +kernel
theorem dX3_isListed_15 : decode cX3_isListed 15 = .ok (.iaload, 1) := by decide +kernel
theorem dX3_isListed_16 : decode cX3_isListed 16 = .ok (.iload_n 2, 1) := by decide +kernel
theorem dX3_isListed_17 : decode cX3_isListed 17 = .ok (.if_icmp .ne 20, 3) := by decide +kernel
theorem dX3_isListed_20 : decode cX3_isListed 20 = .ok (.aload_n 0, 1) := by decide +kernel
theorem dX3_isListed_21 : decode cX3_isListed 21 = .ok (.aload_n 1, 1) := by decide +kernel
theorem dX3_isListed_22 : decode cX3_isListed 22 = .ok (.aload_n 0, 1) := by decide +kernel
theorem dX3_isListed_23 : decode cX3_isListed 23 = .ok (.getfield 9, 3) := by decide +kernel
theorem dX3_isListed_26 : decode cX3_isListed 26 = .ok (.iload_n 3, 1) := by decide +kernel
theorem dX3_isListed_27 : decode cX3_isListed 27 = .ok (.iaload, 1) := by decide +kernel
theorem dX3_isListed_28 : decode cX3_isListed 28 = .ok (.iload_n 2, 1) := by decide +kernel
theorem dX3_isListed_29 : decode cX3_isListed 29 = .ok (.invokevirtual 70, 3) := by decide +kernel
theorem dX3_isListed_32 : decode cX3_isListed 32 = .ok (.ifCond .eq 5, 3) := by decide +kernel
theorem dX3_isListed_35 : decode cX3_isListed 35 = .ok (.iconst 1, 1) := by decide +kernel
theorem dX3_isListed_36 : decode cX3_isListed 36 = .ok (.ireturn, 1) := by decide +kernel
theorem dX3_isListed_37 : decode cX3_isListed 37 = .ok (.iinc 3 1, 3) := by decide +kernel
theorem dX3_isListed_40 : decode cX3_isListed 40 = .ok (.goto (-38), 3) := by decide +kernel
theorem dX3_isListed_43 : decode cX3_isListed 43 = .ok (.iconst 0, 1) := by decide +kernel
theorem dX3_isListed_44 : decode cX3_isListed 44 = .ok (.ireturn, 1) := by decide +kernel
theorem dX3_isSameText_0 : decode cX3_isSameText 0 = .ok (.iconst 0, 1) := by decide +kernel
theorem dX3_isSameText_1 : decode cX3_isSameText 1 = .ok (.istore 4, 2) := by decide +kernel
theorem dX3_isSameText_3 : decode cX3_isSameText 3 = .ok (.iload 4, 2) := by decide +kernel
theorem dX3_isSameText_5 : decode cX3_isSameText 5 = .ok (.iload_n 3, 1) := by decide +kernel
theorem dX3_isSameText_6 : decode cX3_isSameText 6 = .ok (.if_icmp .ge 33, 3) := by decide +kernel
theorem dX3_isSameText_9 : decode cX3_isSameText 9 = .ok (.aload_n 1, 1) := by decide +kernel
theorem dX3_isSameText_10 : decode cX3_isSameText 10 = .ok (.iload_n 2, 1) := by decide +kernel
theorem dX3_isSameText_11 : decode cX3_isSameText 11 = .ok (.iload 4, 2) := by decide +kernel
theorem dX3_isSameText_13 : decode cX3_isSameText 13 = .ok (.iadd, 1) := by decide +kernel
theorem dX3_isSameText_14 : decode cX3_isSameText 14 = .ok (.invokevirtual 53, 3) := by decide +kernel
theorem dX3_isSameText_17 : decode cX3_isSameText 17 = .ok (.aload_n 1, 1) := by decide +kernel
theorem dX3_isSameText_18 : decode cX3_isSameText 18 = .ok (.aload_n 0, 1) := by decide +kernel
theorem dX3_isSameText_19 : decode cX3_isSameText 19 = .ok (.getfield 44, 3) := by decide +kernel
theorem dX3_isSameText_22 : decode cX3_isSameText 22 = .ok (.iload 4, 2) := by decide +kernel
theorem dX3_isSameText_24 : decode cX3_isSameText 24 = .ok (.iadd, 1) := by decide +kernel
theorem dX3_isSameText_25 : decode cX3_isSameText 25 = .ok (.invokevirtual 53, 3) := by decide +kernel
theorem dX3_isSameText_28 : decode cX3_isSameText 28 = .ok (.if_icmp .eq 5, 3) := by decide +kernel
theorem dX3_isSameText_31 : decode cX3_isSameText 31 = .ok (.iconst 0, 1) := by decide +kernel
theorem dX3_isSameText_32 : decode cX3_isSameText 32 = .ok (.ireturn, 1) := by decide +kernel
theorem dX3_isSameText_33 : decode cX3_isSameText 33 = .ok (.iinc 4 1, 3) := by decide +kernel
theorem dX3_isSameText_36 : decode cX3_isSameText 36 = .ok (.goto (-33), 3) := by decide +kernel
theorem dX3_isSameText_39 : decode cX3_isSameText 39 = .ok (.iconst 1, 1) := by decide +kernel
theorem dX3_isSameText_40 : decode cX3_isSameText 40 = .ok (.ireturn, 1) := by decide +kernel
theorem dX3_fitsFrequency_0 : decode cX3_fitsFrequency 0 = .ok (.aload_n 0, 1) := by decide +kernel
theorem dX3_fitsFrequency_1 : decode cX3_fitsFrequency 1 = .ok (.aload_n 0, 1) := by decide +kernel
theorem dX3_fitsFrequency_2 : decode cX3_fitsFrequency 2 = .ok (.getfield 21, 3) := by decide +kernel
theorem dX3_fitsFrequency_5 : decode cX3_fitsFrequency 5 = .ok (.iconst 1, 1) := by decide +kernel
theorem dX3_fitsFrequency_6 : decode cX3_fitsFrequency 6 = .ok (.isub, 1) := by decide +kernel
theorem dX3_fitsFrequency_7 : decode cX3_fitsFrequency 7 = .ok (.invokevirtual 34, 3) := by decide +kernel
theorem dX3_fitsFrequency_10 : decode cX3_fitsFrequency 10 = .ok (.istore_n 3, 1) := by decide +kernel
theorem dX3_fitsFrequency_11 : decode cX3_fitsFrequency 11 = .ok (.iload_n 1, 1) := by decide +kernel
theorem dX3_fitsFrequency_12 : decode cX3_fitsFrequency 12 = .ok (.bipush 59, 2) := by decide +kernel
theorem dX3_fitsFrequency_14 : decode cX3_fitsFrequency 14 = .ok (.if_icmp .ne 21, 3) := by decide +kernel
theorem dX3_fitsFrequency_17 : decode cX3_fitsFrequency 17 = .ok (.iload_n 3, 1) := by decide +kernel
theorem dX3_fitsFrequency_18 : decode cX3_fitsFrequency 18 = .ok (.ifCond .le 17, 3) := by decide +kernel
theorem dX3_fitsFrequency_21 : decode cX3_fitsFrequency 21 = .ok (.aload_n 0, 1) := by decide +kernel
theorem dX3_fitsFrequency_22 : decode cX3_fitsFrequency 22 = .ok (.iconst 0, 1) := by decide +kernel
theorem dX3_fitsFrequency_23 : decode cX3_fitsFrequency 23 = .ok (.putfield 40, 3) := by decide +kernel
theorem dX3_fitsFrequency_26 : decode cX3_fitsFrequency 26 = .ok (.aload_n 0, 1) := by decide +kernel
theorem dX3_fitsFrequency_27 : decode cX3_fitsFrequency 27 = .ok (.iload_n 2, 1) := by decide +kernel
theorem dX3_fitsFrequency_28 : decode cX3_fitsFrequency 28 = .ok (.iconst 1, 1) := by decide +kernel
theorem dX3_fitsFrequency_29 : decode cX3_fitsFrequency 29 = .ok (.iadd, 1) := by decide +kernel
theorem dX3_fitsFrequency_30 : decode cX3_fitsFrequency 30 = .ok (.putfield 44, 3) := by decide +kernel
theorem dX3_fitsFrequency_33 : decode cX3_fitsFrequency 33 = .ok (.iconst 1, 1) := by decide +kernel
theorem dX3_fitsFrequency_34 : decode cX3_fitsFrequency 34 = .ok (.ireturn, 1) := by decide +kernel
theorem dX3_fitsFrequency_35 : decode cX3_fitsFrequency 35 = .ok (.iload_n 1, 1) := by decide +kernel
theorem dX3_fitsFrequency_36 : decode cX3_fitsFrequency 36 = .ok (.bipush 48, 2) := by decide +kernel
theorem dX3_fitsFrequency_38 : decode cX3_fitsFrequency 38 = .ok (.if_icmp .lt 16, 3) := by decide +kernel
theorem dX3_fitsFrequency_41 : decode cX3_fitsFrequency 41 = .ok (.iload_n 1, 1) := by decide +kernel
theorem dX3_fitsFrequency_42 : decode cX3_fitsFrequency 42 = .ok (.bipush 57, 2) := by decide +kernel
theorem dX3_fitsFrequency_44 : decode cX3_fitsFrequency 44 = .ok (.if_icmp .gt 10, 3) := by decide +kernel
theorem dX3_fitsFrequency_47 : decode cX3_fitsFrequency 47 = .ok (.aload_n 0, 1) := by decide +kernel
theorem dX3_fitsFrequency_48 : decode cX3_fitsFrequency 48 = .ok (.getfield 21, 3) := by decide +kernel
theorem dX3_fitsFrequency_51 : decode cX3_fitsFrequency 51 = .ok (.ifCond .ne 5, 3) := by decide +kernel
theorem dX3_fitsFrequency_54 : decode cX3_fitsFrequency 54 = .ok (.iconst 0, 1) := by decide +kernel
theorem dX3_fitsFrequency_55 : decode cX3_fitsFrequency 55 = .ok (.ireturn, 1) := by decide +kernel
theorem dX3_fitsFrequency_56 : decode cX3_fitsFrequency 56 = .ok (.bipush 10, 2) := by decide +kernel
theorem dX3_fitsFrequency_58 : decode cX3_fitsFrequency 58 = .ok (.iload_n 3, 1) := by decide +kernel
theorem dX3_fitsFrequency_59 : decode cX3_fitsFrequency 59 = .ok (.imul, 1) := by decide +kernel
theorem dX3_fitsFrequency_60 : decode cX3_fitsFrequency 60 = .ok (.iload_n 1, 1) := by decide +kernel
theorem dX3_fitsFrequency_61 : decode cX3_fitsFrequency 61 = .ok (.iadd, 1) := by decide +kernel
theorem dX3_fitsFrequency_62 : decode cX3_fitsFrequency 62 = .ok (.bipush 48, 2) := by decide +kernel
theorem dX3_fitsFrequency_64 : decode cX3_fitsFrequency 64 = .ok (.isub, 1) := by decide +kernel
theorem dX3_fitsFrequency_65 : decode cX3_fitsFrequency 65 = .ok (.istore 4, 2) := by decide +kernel
theorem dX3_fitsFrequency_67 : decode cX3_fitsFrequency 67 = .ok (.iload 4, 2) := by decide +kernel
theorem dX3_fitsFrequency_69 : decode cX3_fitsFrequency 69 = .ok (.iconst 1, 1) := by decide +kernel
theorem dX3_fitsFrequency_70 : decode cX3_fitsFrequency 70 = .ok (.if_icmp .lt 10, 3) := by decide +kernel
theorem dX3_fitsFrequency_73 : decode cX3_fitsFrequency 73 = .ok (.iload 4, 2) := by decide +kernel
theorem dX3_fitsFrequency_75 : decode cX3_fitsFrequency 75 = .ok (.bipush 99, 2) := by decide +kernel
theorem dX3_fitsFrequency_77 : decode cX3_fitsFrequency 77 = .ok (.if_icmp .le 5, 3) := by decide +kernel
theorem dX3_fitsFrequency_80 : decode cX3_fitsFrequency 80 = .ok (.iconst 0, 1) := by decide +kernel
theorem dX3_fitsFrequency_81 : decode cX3_fitsFrequency 81 = .ok (.ireturn, 1) := by decide +kernel
theorem dX3_fitsFrequency_82 : decode cX3_fitsFrequency 82 = .ok (.aload_n 0, 1) := by decide +kernel
theorem dX3_fitsFrequency_83 : decode cX3_fitsFrequency 83 = .ok (.getfield 18, 3) := by decide +kernel
theorem dX3_fitsFrequency_86 : decode cX3_fitsFrequency 86 = .ok (.aload_n 0, 1) := by decide +kernel
theorem dX3_fitsFrequency_87 : decode cX3_fitsFrequency 87 = .ok (.getfield 21, 3) := by decide +kernel
theorem dX3_fitsFrequency_90 : decode cX3_fitsFrequency 90 = .ok (.iconst 1, 1) := by decide +kernel
theorem dX3_fitsFrequency_91 : decode cX3_fitsFrequency 91 = .ok (.isub, 1) := by decide +kernel
theorem dX3_fitsFrequency_92 : decode cX3_fitsFrequency 92 = .ok (.iload 4, 2) := by decide +kernel
theorem dX3_fitsFrequency_94 : decode cX3_fitsFrequency 94 = .ok (.iastore, 1) := by decide +kernel
theorem dX3_fitsFrequency_95 : decode cX3_fitsFrequency 95 = .ok (.iconst 1, 1) := by decide +kernel
theorem dX3_fitsFrequency_96 : decode cX3_fitsFrequency 96 = .ok (.ireturn, 1) := by decide +kernel
theorem dX4_init_0 : decode cX4_init 0 = .ok (.aload_n 0, 1) := by decide +kernel
theorem dX4_init_1 : decode cX4_init 1 = .ok (.invokespecial 3, 3) := by decide +kernel
theorem dX4_init_4 : decode cX4_init 4 = .ok (.aload_n 0, 1) := by decide +kernel
theorem dX4_init_5 : decode cX4_init 5 = .ok (.bipush 14, 2) := by decide +kernel
theorem dX4_init_7 : decode cX4_init 7 = .ok (.bipush 13, 2) := by decide +kernel
theorem dX4_init_9 : decode cX4_init 9 = .ok (.multianewarray 9 2, 4) := by decide +kernel
theorem dX4_init_13 : decode cX4_init 13 = .ok (.putfield 11, 3) := by decide +kernel
theorem dX4_init_16 : decode cX4_init 16 = .ok (.aload_n 0, 1) := by decide +kernel
theorem dX4_init_17 : decode cX4_init 17 = .ok (.bipush 14, 2) := by decide +kernel
theorem dX4_init_19 : decode cX4_init 19 = .ok (.newarray .int, 2) := by decide +kernel
theorem dX4_init_21 : decode cX4_init 21 = .ok (.putfield 16, 3) := by decide +kernel
theorem dX4_init_24 : decode cX4_init 24 = .ok (.aload_n 0, 1) := by decide +kernel
theorem dX4_init_25 : decode cX4_init 25 = .ok (.new 20, 3) := by decide +kernel
theorem dX4_init_28 : decode cX4_init 28 = .ok (.dup, 1) := by decide +kernel
theorem dX4_init_29 : decode cX4_init 29 = .ok (.bipush 10, 2) := by decide +kernel
theorem dX4_init_31 : decode cX4_init 31 = .ok (.invokespecial 22, 3) := by decide +kernel
theorem dX4_init_34 : decode cX4_init 34 = .ok (.putfield 25, 3) := by decide +kernel
theorem dX4_init_37 : decode cX4_init 37 = .ok (.return_, 1) := by decide +kernel
theorem dX4_start_0 : decode cX4_start 0 = .ok (.aload_n 0, 1) := by decide +kernel
theorem dX4_start_1 : decode cX4_start 1 = .ok (.iload_n 1, 1) := by decide +kernel
theorem dX4_start_2 : decode cX4_start 2 = .ok (.putfield 29, 3) := by decide +kernel
theorem dX4_start_5 : decode cX4_start 5 = .ok (.aload_n 0, 1) := by decide +kernel
theorem dX4_start_6 : decode cX4_start 6 = .ok (.iconst 0, 1) := by decide +kernel
theorem dX4_start_7 : decode cX4_start 7 = .ok (.iload_n 2, 1) := by decide +kernel
theorem dX4_start_8 : decode cX4_start 8 = .ok (.bipush 14, 2) := by decide +kernel
theorem dX4_start_10 : decode cX4_start 10 = .ok (.invokestatic 33, 3) := by decide +kernel
theorem dX4_start_13 : decode cX4_start 13 = .ok (.invokestatic 39, 3) := by decide +kernel
theorem dX4_start_16 : decode cX4_start 16 = .ok (.putfield 42, 3) := by decide +kernel
theorem dX4_start_19 : decode cX4_start 19 = .ok (.aload_n 0, 1) := by decide +kernel
theorem dX4_start_20 : decode cX4_start 20 = .ok (.iconst 0, 1) := by decide +kernel
theorem dX4_start_21 : decode cX4_start 21 = .ok (.putfield 45, 3) := by decide +kernel
theorem dX4_start_24 : decode cX4_start 24 = .ok (.aload_n 0, 1) := by decide +kernel
theorem dX4_start_25 : decode cX4_start 25 = .ok (.getfield 16, 3) := by decide +kernel
theorem dX4_start_28 : decode cX4_start 28 = .ok (.iconst 0, 1) := by decide +kernel
theorem dX4_start_29 : decode cX4_start 29 = .ok (.invokestatic 48, 3) := by decide +kernel
theorem dX4_start_32 : decode cX4_start 32 = .ok (.return_, 1) := by decide +kernel
theorem dX4_addStep_0 : decode cX4_addStep 0 = .ok (.aload_n 0, 1) := by decide +kernel
theorem dX4_addStep_1 : decode cX4_addStep 1 = .ok (.iload_n 1, 1) := by decide +kernel
theorem dX4_addStep_2 : decode cX4_addStep 2 = .ok (.invokevirtual 54, 3) := by decide +kernel
theorem dX4_addStep_5 : decode cX4_addStep 5 = .ok (.ifCond .eq 38, 3) := by decide +kernel
theorem dX4_addStep_8 : decode cX4_addStep 8 = .ok (.aload_n 0, 1) := by decide +kernel
theorem dX4_addStep_9 : decode cX4_addStep 9 = .ok (.getfield 16, 3) := by decide +kernel
theorem dX4_addStep_12 : decode cX4_addStep 12 = .ok (.iload_n 1, 1) := by decide +kernel
theorem dX4_addStep_13 : decode cX4_addStep 13 = .ok (.iaload, 1) := by decide +kernel
theorem dX4_addStep_14 : decode cX4_addStep 14 = .ok (.bipush 13, 2) := by decide +kernel
theorem dX4_addStep_16 : decode cX4_addStep 16 = .ok (.if_icmp .ge 27, 3) := by decide +kernel
theorem dX4_addStep_19 : decode cX4_addStep 19 = .ok (.aload_n 0, 1) := by decide +kernel
theorem dX4_addStep_20 : decode cX4_addStep 20 = .ok (.getfield 11, 3) := by decide +kernel
theorem dX4_addStep_23 : decode cX4_addStep 23 = .ok (.iload_n 1, 1) := by decide +kernel
theorem dX4_addStep_24 : decode cX4_addStep 24 = .ok (.aaload, 1) := by decide +kernel
theorem dX4_addStep_25 : decode cX4_addStep 25 = .ok (.aload_n 0, 1) := by decide +kernel
theorem dX4_addStep_26 : decode cX4_addStep 26 = .ok (.getfield 16, 3) := by decide +kernel
theorem dX4_addStep_29 : decode cX4_addStep 29 = .ok (.iload_n 1, 1) := by decide +kernel
theorem dX4_addStep_30 : decode cX4_addStep 30 = .ok (.iaload, 1) := by decide +kernel
theorem dX4_addStep_31 : decode cX4_addStep 31 = .ok (.iload_n 2, 1) := by decide +kernel
theorem dX4_addStep_32 : decode cX4_addStep 32 = .ok (.iastore, 1) := by decide +kernel
theorem dX4_addStep_33 : decode cX4_addStep 33 = .ok (.aload_n 0, 1) := by decide +kernel
theorem dX4_addStep_34 : decode cX4_addStep 34 = .ok (.getfield 16, 3) := by decide +kernel
theorem dX4_addStep_37 : decode cX4_addStep 37 = .ok (.iload_n 1, 1) := by decide +kernel
theorem dX4_addStep_38 : decode cX4_addStep 38 = .ok (.dup2, 1) := by decide +kernel
theorem dX4_addStep_39 : decode cX4_addStep 39 = .ok (.iaload, 1) := by decide +kernel
theorem dX4_addStep_40 : decode cX4_addStep 40 = .ok (.iconst 1, 1) := by decide +kernel
theorem dX4_addStep_41 : decode cX4_addStep 41 = .ok (.iadd, 1) := by decide +kernel
theorem dX4_addStep_42 : decode cX4_addStep 42 = .ok (.iastore, 1) := by decide +kernel
theorem dX4_addStep_43 : decode cX4_addStep 43 = .ok (.return_, 1) := by decide +kernel
theorem dX4_addBranching_0 : decode cX4_addBranching 0 = .ok (.aload_n 0, 1) := by decide +kernel
theorem dX4_addBranching_1 : decode cX4_addBranching 1 = .ok (.dup, 1) := by decide +kernel
theorem dX4_addBranching_2 : decode cX4_addBranching 2 = .ok (.getfield 45, 3) := by decide +kernel
theorem dX4_addBranching_5 : decode cX4_addBranching 5 = .ok (.iconst 1, 1) := by decide +kernel
theorem dX4_addBranching_6 : decode cX4_addBranching 6 = .ok (.iadd, 1) := by decide +kernel
theorem dX4_addBranching_7 : decode cX4_addBranching 7 = .ok (.putfield 45, 3) := by decide +kernel
theorem dX4_addBranching_10 : decode cX4_addBranching 10 = .ok (.return_, 1) := by decide +kernel
theorem dX4_has_0 : decode cX4_has 0 = .ok (.iload_n 1, 1) := by decide +kernel
theorem dX4_has_1 : decode cX4_has 1 = .ok (.ifCond .lt 15, 3) := by decide +kernel
theorem dX4_has_4 : decode cX4_has 4 = .ok (.iload_n 1, 1) := by decide +kernel
theorem dX4_has_5 : decode cX4_has 5 = .ok (.aload_n 0, 1) := by decide +kernel
theorem dX4_has_6 : decode cX4_has 6 = .ok (.getfield 42, 3) := by decide +kernel
theorem dX4_has_9 : decode cX4_has 9 = .ok (.if_icmp .ge 7, 3) := by decide +kernel
theorem dX4_has_12 : decode cX4_has 12 = .ok (.iconst 1, 1) := by decide +kernel
theorem dX4_has_13 : decode cX4_has 13 = .ok (.goto 4, 3) := by decide +kernel
theorem dX4_has_16 : decode cX4_has 16 = .ok (.iconst 0, 1) := by decide +kernel
theorem dX4_has_17 : decode cX4_has 17 = .ok (.ireturn, 1) := by decide +kernel
theorem dX4_width_0 : decode cX4_width 0 = .ok (.aload_n 0, 1) := by decide +kernel
theorem dX4_width_1 : decode cX4_width 1 = .ok (.getfield 29, 3) := by decide +kernel
theorem dX4_width_4 : decode cX4_width 4 = .ok (.ireturn, 1) := by decide +kernel
theorem dX4_branchings_0 : decode cX4_branchings 0 = .ok (.aload_n 0, 1) := by decide +kernel
theorem dX4_branchings_1 : decode cX4_branchings 1 = .ok (.getfield 45, 3) := by decide +kernel
theorem dX4_branchings_4 : decode cX4_branchings 4 = .ok (.ireturn, 1) := by decide +kernel
theorem dX4_lengthOf_0 : decode cX4_lengthOf 0 = .ok (.aload_n 0, 1) := by decide +kernel
theorem dX4_lengthOf_1 : decode cX4_lengthOf 1 = .ok (.iload_n 1, 1) := by decide +kernel
theorem dX4_lengthOf_2 : decode cX4_lengthOf 2 = .ok (.invokevirtual 54, 3) := by decide +kernel
theorem dX4_lengthOf_5 : decode cX4_lengthOf 5 = .ok (.ifCond .eq 12, 3) := by decide +kernel
theorem dX4_lengthOf_8 : decode cX4_lengthOf 8 = .ok (.aload_n 0, 1) := by decide +kernel
theorem dX4_lengthOf_9 : decode cX4_lengthOf 9 = .ok (.getfield 16, 3) := by decide +kernel
theorem dX4_lengthOf_12 : decode cX4_lengthOf 12 = .ok (.iload_n 1, 1) := by decide +kernel
theorem dX4_lengthOf_13 : decode cX4_lengthOf 13 = .ok (.iaload, 1) := by decide +kernel
theorem dX4_lengthOf_14 : decode cX4_lengthOf 14 = .ok (.goto 5, 3) := by decide +kernel
theorem dX4_lengthOf_17 : decode cX4_lengthOf 17 = .ok (.bipush (-101), 2) := by decide +kernel
theorem dX4_lengthOf_19 : decode cX4_lengthOf 19 = .ok (.ireturn, 1) := by decide +kernel
theorem dX4_stepOf_0 : decode cX4_stepOf 0 = .ok (.aload_n 0, 1) := by decide +kernel
theorem dX4_stepOf_1 : decode cX4_stepOf 1 = .ok (.iload_n 1, 1) := by decide +kernel
theorem dX4_stepOf_2 : decode cX4_stepOf 2 = .ok (.invokevirtual 54, 3) := by decide +kernel
theorem dX4_stepOf_5 : decode cX4_stepOf 5 = .ok (.ifCond .eq 28, 3) := by decide +kernel
theorem dX4_stepOf_8 : decode cX4_stepOf 8 = .ok (.iload_n 2, 1) := by decide +kernel
theorem dX4_stepOf_9 : decode cX4_stepOf 9 = .ok (.ifCond .lt 24, 3) := by decide +kernel
theorem dX4_stepOf_12 : decode cX4_stepOf 12 = .ok (.iload_n 2, 1) := by decide +kernel
theorem dX4_stepOf_13 : decode cX4_stepOf 13 = .ok (.aload_n 0, 1) := by decide +kernel
theorem dX4_stepOf_14 : decode cX4_stepOf 14 = .ok (.getfield 16, 3) := by decide +kernel
theorem dX4_stepOf_17 : decode cX4_stepOf 17 = .ok (.iload_n 1, 1) := by decide +kernel
theorem dX4_stepOf_18 : decode cX4_stepOf 18 = .ok (.iaload, 1) := by decide +kernel
theorem dX4_stepOf_19 : decode cX4_stepOf 19 = .ok (.if_icmp .ge 14, 3) := by decide +kernel
theorem dX4_stepOf_22 : decode cX4_stepOf 22 = .ok (.aload_n 0, 1) := by decide +kernel
theorem dX4_stepOf_23 : decode cX4_stepOf 23 = .ok (.getfield 11, 3) := by decide +kernel
theorem dX4_stepOf_26 : decode cX4_stepOf 26 = .ok (.iload_n 1, 1) := by decide +kernel
theorem dX4_stepOf_27 : decode cX4_stepOf 27 = .ok (.aaload, 1) := by decide +kernel
theorem dX4_stepOf_28 : decode cX4_stepOf 28 = .ok (.iload_n 2, 1) := by decide +kernel
theorem dX4_stepOf_29 : decode cX4_stepOf 29 = .ok (.iaload, 1) := by decide +kernel
theorem dX4_stepOf_30 : decode cX4_stepOf 30 = .ok (.goto 5, 3) := by decide +kernel
theorem dX4_stepOf_33 : decode cX4_stepOf 33 = .ok (.bipush (-101), 2) := by decide +kernel
theorem dX4_stepOf_35 : decode cX4_stepOf 35 = .ok (.ireturn, 1) := by decide +kernel
theorem dX4_cost_0 : decode cX4_cost 0 = .ok (.iconst 0, 1) := by decide +kernel
theorem dX4_cost_1 : decode cX4_cost 1 = .ok (.istore_n 2, 1) := by decide +kernel
theorem dX4_cost_2 : decode cX4_cost 2 = .ok (.iconst 0, 1) := by decide +kernel
theorem dX4_cost_3 : decode cX4_cost 3 = .ok (.istore_n 3, 1) := by decide +kernel
theorem dX4_cost_4 : decode cX4_cost 4 = .ok (.iload_n 3, 1) := by decide +kernel
theorem dX4_cost_5 : decode cX4_cost 5 = .ok (.aload_n 0, 1) := by decide +kernel
theorem dX4_cost_6 : decode cX4_cost 6 = .ok (.getfield 42, 3) := by decide +kernel
theorem dX4_cost_9 : decode cX4_cost 9 = .ok (.if_icmp .ge 24, 3) := by decide +kernel
theorem dX4_cost_12 : decode cX4_cost 12 = .ok (.iload_n 2, 1) := by decide +kernel
theorem dX4_cost_13 : decode cX4_cost 13 = .ok (.aload_n 1, 1) := by decide +kernel
theorem dX4_cost_14 : decode cX4_cost 14 = .ok (.iload_n 3, 1) := by decide +kernel
theorem dX4_cost_15 : decode cX4_cost 15 = .ok (.invokevirtual 58, 3) := by decide +kernel
theorem dX4_cost_18 : decode cX4_cost 18 = .ok (.aload_n 0, 1) := by decide +kernel
theorem dX4_cost_19 : decode cX4_cost 19 = .ok (.getfield 16, 3) := by decide +kernel
theorem dX4_cost_22 : decode cX4_cost 22 = .ok (.iload_n 3, 1) := by decide +kernel
theorem dX4_cost_23 : decode cX4_cost 23 = .ok (.iaload, 1) := by decide +kernel
theorem dX4_cost_24 : decode cX4_cost 24 = .ok (.imul, 1) := by decide +kernel
theorem dX4_cost_25 : decode cX4_cost 25 = .ok (.iadd, 1) := by decide +kernel
theorem dX4_cost_26 : decode cX4_cost 26 = .ok (.istore_n 2, 1) := by decide +kernel
theorem dX4_cost_27 : decode cX4_cost 27 = .ok (.iinc 3 1, 3) := by decide +kernel
theorem dX4_cost_30 : decode cX4_cost 30 = .ok (.goto (-26), 3) := by decide +kernel
theorem dX4_cost_33 : decode cX4_cost 33 = .ok (.iload_n 2, 1) := by decide +kernel
theorem dX4_cost_34 : decode cX4_cost 34 = .ok (.ireturn, 1) := by decide +kernel
theorem dX4_longestPath_0 : decode cX4_longestPath 0 = .ok (.iconst 0, 1) := by decide +kernel
theorem dX4_longestPath_1 : decode cX4_longestPath 1 = .ok (.istore_n 1, 1) := by decide +kernel
theorem dX4_longestPath_2 : decode cX4_longestPath 2 = .ok (.iconst 0, 1) := by decide +kernel
theorem dX4_longestPath_3 : decode cX4_longestPath 3 = .ok (.istore_n 2, 1) := by decide +kernel
theorem dX4_longestPath_4 : decode cX4_longestPath 4 = .ok (.iload_n 2, 1) := by decide +kernel
theorem dX4_longestPath_5 : decode cX4_longestPath 5 = .ok (.aload_n 0, 1) := by decide +kernel
theorem dX4_longestPath_6 : decode cX4_longestPath 6 = .ok (.getfield 42, 3) := by decide +kernel
theorem dX4_longestPath_9 : decode cX4_longestPath 9 = .ok (.if_icmp .ge 20, 3) := by decide +kernel
theorem dX4_longestPath_12 : decode cX4_longestPath 12 = .ok (.iload_n 1, 1) := by decide +kernel
theorem dX4_longestPath_13 : decode cX4_longestPath 13 = .ok (.aload_n 0, 1) := by decide +kernel
theorem dX4_longestPath_14 : decode cX4_longestPath 14 = .ok (.getfield 16, 3) := by decide +kernel
theorem dX4_longestPath_17 : decode cX4_longestPath 17 = .ok (.iload_n 2, 1) := by decide +kernel
theorem dX4_longestPath_18 : decode cX4_longestPath 18 = .ok (.iaload, 1) := by decide +kernel
theorem dX4_longestPath_19 : decode cX4_longestPath 19 = .ok (.invokestatic 39, 3) := by decide +kernel
theorem dX4_longestPath_22 : decode cX4_longestPath 22 = .ok (.istore_n 1, 1) := by decide +kernel
theorem dX4_longestPath_23 : decode cX4_longestPath 23 = .ok (.iinc 2 1, 3) := by decide +kernel
theorem dX4_longestPath_26 : decode cX4_longestPath 26 = .ok (.goto (-22), 3) := by decide +kernel
theorem dX4_longestPath_29 : decode cX4_longestPath 29 = .ok (.iload_n 1, 1) := by decide +kernel
theorem dX4_longestPath_30 : decode cX4_longestPath 30 = .ok (.ireturn, 1) := by decide +kernel
theorem dX4_partsOfWhole_0 : decode cX4_partsOfWhole 0 = .ok (.iconst 0, 1) := by decide +kernel
theorem dX4_partsOfWhole_1 : decode cX4_partsOfWhole 1 = .ok (.aload_n 0, 1) := by decide +kernel
theorem dX4_partsOfWhole_2 : decode cX4_partsOfWhole 2 = .ok (.aload_n 0, 1) := by decide +kernel
theorem dX4_partsOfWhole_3 : decode cX4_partsOfWhole 3 = .ok (.getfield 42, 3) := by decide +kernel
theorem dX4_partsOfWhole_6 : decode cX4_partsOfWhole 6 = .ok (.iconst 1, 1) := by decide +kernel
theorem dX4_partsOfWhole_7 : decode cX4_partsOfWhole 7 = .ok (.isub, 1) := by decide +kernel
theorem dX4_partsOfWhole_8 : decode cX4_partsOfWhole 8 = .ok (.iconst 0, 1) := by decide +kernel
theorem dX4_partsOfWhole_9 : decode cX4_partsOfWhole 9 = .ok (.invokevirtual 64, 3) := by decide +kernel
theorem dX4_partsOfWhole_12 : decode cX4_partsOfWhole 12 = .ok (.invokestatic 39, 3) := by decide +kernel
theorem dX4_partsOfWhole_15 : decode cX4_partsOfWhole 15 = .ok (.ireturn, 1) := by decide +kernel
theorem dX4_differentPaths_0 : decode cX4_differentPaths 0 = .ok (.iconst 0, 1) := by decide +kernel
theorem dX4_differentPaths_1 : decode cX4_differentPaths 1 = .ok (.istore_n 2, 1) := by decide +kernel
theorem dX4_differentPaths_2 : decode cX4_differentPaths 2 = .ok (.iconst 0, 1) := by decide +kernel
theorem dX4_differentPaths_3 : decode cX4_differentPaths 3 = .ok (.istore_n 3, 1) := by decide +kernel
theorem dX4_differentPaths_4 : decode cX4_differentPaths 4 = .ok (.iload_n 3, 1) := by decide +kernel
theorem dX4_differentPaths_5 : decode cX4_differentPaths 5 = .ok (.aload_n 0, 1) := by decide +kernel
theorem dX4_differentPaths_6 : decode cX4_differentPaths 6 = .ok (.getfield 42, 3) := by decide +kernel
theorem dX4_differentPaths_9 : decode cX4_differentPaths 9 = .ok (.if_icmp .ge 21, 3) := by decide +kernel
theorem dX4_differentPaths_12 : decode cX4_differentPaths 12 = .ok (.aload_n 0, 1) := by decide +kernel
theorem dX4_differentPaths_13 : decode cX4_differentPaths 13 = .ok (.aload_n 1, 1) := by decide +kernel
theorem dX4_differentPaths_14 : decode cX4_differentPaths 14 = .ok (.iload_n 3, 1) := by decide +kernel
theorem dX4_differentPaths_15 : decode cX4_differentPaths 15 = .ok (.invokevirtual 67, 3) := by decide +kernel
theorem dX4_differentPaths_18 : decode cX4_differentPaths 18 = .ok (.ifCond .ne 6, 3) := by decide +kernel
theorem dX4_differentPaths_21 : decode cX4_differentPaths 21 = .ok (.iinc 2 1, 3) := by decide +kernel
theorem dX4_differentPaths_24 : decode cX4_differentPaths 24 = .ok (.iinc 3 1, 3) := by decide +kernel
theorem dX4_differentPaths_27 : decode cX4_differentPaths 27 = .ok (.goto (-23), 3) := by decide +kernel
theorem dX4_differentPaths_30 : decode cX4_differentPaths 30 = .ok (.iload_n 2, 1) := by decide +kernel
theorem dX4_differentPaths_31 : decode cX4_differentPaths 31 = .ok (.ireturn, 1) := by decide +kernel
theorem dX4_hasSamePath_0 : decode cX4_hasSamePath 0 = .ok (.iconst 0, 1) := by decide +kernel
theorem dX4_hasSamePath_1 : decode cX4_hasSamePath 1 = .ok (.istore_n 3, 1) := by decide +kernel
theorem dX4_hasSamePath_2 : decode cX4_hasSamePath 2 = .ok (.iload_n 3, 1) := by decide +kernel
theorem dX4_hasSamePath_3 : decode cX4_hasSamePath 3 = .ok (.aload_n 0, 1) := by decide +kernel
theorem dX4_hasSamePath_4 : decode cX4_hasSamePath 4 = .ok (.getfield 16, 3) := by decide +kernel
theorem dX4_hasSamePath_7 : decode cX4_hasSamePath 7 = .ok (.iload_n 2, 1) := by decide +kernel
theorem dX4_hasSamePath_8 : decode cX4_hasSamePath 8 = .ok (.iaload, 1) := by decide +kernel
theorem dX4_hasSamePath_9 : decode cX4_hasSamePath 9 = .ok (.if_icmp .gt 26, 3) := by decide +kernel
theorem dX4_hasSamePath_12 : decode cX4_hasSamePath 12 = .ok (.aload_n 0, 1) := by decide +kernel
theorem dX4_hasSamePath_13 : decode cX4_hasSamePath 13 = .ok (.iload_n 2, 1) := by decide +kernel
theorem dX4_hasSamePath_14 : decode cX4_hasSamePath 14 = .ok (.iload_n 3, 1) := by decide +kernel
theorem dX4_hasSamePath_15 : decode cX4_hasSamePath 15 = .ok (.invokevirtual 64, 3) := by decide +kernel
theorem dX4_hasSamePath_18 : decode cX4_hasSamePath 18 = .ok (.aload_n 1, 1) := by decide +kernel
theorem dX4_hasSamePath_19 : decode cX4_hasSamePath 19 = .ok (.iload_n 2, 1) := by decide +kernel
theorem dX4_hasSamePath_20 : decode cX4_hasSamePath 20 = .ok (.iload_n 3, 1) := by decide +kernel
theorem dX4_hasSamePath_21 : decode cX4_hasSamePath 21 = .ok (.invokevirtual 64, 3) := by decide +kernel
theorem dX4_hasSamePath_24 : decode cX4_hasSamePath 24 = .ok (.if_icmp .eq 5, 3) := by decide +kernel
theorem dX4_hasSamePath_27 : decode cX4_hasSamePath 27 = .ok (.iconst 0, 1) := by decide +kernel
theorem dX4_hasSamePath_28 : decode cX4_hasSamePath 28 = .ok (.ireturn, 1) := by decide +kernel
theorem dX4_hasSamePath_29 : decode cX4_hasSamePath 29 = .ok (.iinc 3 1, 3) := by decide +kernel
theorem dX4_hasSamePath_32 : decode cX4_hasSamePath 32 = .ok (.goto (-30), 3) := by decide +kernel
theorem dX4_hasSamePath_35 : decode cX4_hasSamePath 35 = .ok (.iconst 1, 1) := by decide +kernel
theorem dX4_hasSamePath_36 : decode cX4_hasSamePath 36 = .ok (.ireturn, 1) := by decide +kernel
theorem dX4_follow_0 : decode cX4_follow 0 = .ok (.iload_n 1, 1) := by decide +kernel
theorem dX4_follow_1 : decode cX4_follow 1 = .ok (.ifCond .ge 6, 3) := by decide +kernel
theorem dX4_follow_4 : decode cX4_follow 4 = .ok (.bipush (-101), 2) := by decide +kernel
theorem dX4_follow_6 : decode cX4_follow 6 = .ok (.ireturn, 1) := by decide +kernel
theorem dX4_follow_7 : decode cX4_follow 7 = .ok (.aload_n 0, 1) := by decide +kernel
theorem dX4_follow_8 : decode cX4_follow 8 = .ok (.iload_n 1, 1) := by decide +kernel
theorem dX4_follow_9 : decode cX4_follow 9 = .ok (.invokevirtual 71, 3) := by decide +kernel
theorem dX4_follow_12 : decode cX4_follow 12 = .ok (.iconst 0, 1) := by decide +kernel
theorem dX4_follow_13 : decode cX4_follow 13 = .ok (.istore_n 2, 1) := by decide +kernel
theorem dX4_follow_14 : decode cX4_follow 14 = .ok (.iload_n 2, 1) := by decide +kernel
theorem dX4_follow_15 : decode cX4_follow 15 = .ok (.aload_n 0, 1) := by decide +kernel
theorem dX4_follow_16 : decode cX4_follow 16 = .ok (.getfield 42, 3) := by decide +kernel
theorem dX4_follow_19 : decode cX4_follow 19 = .ok (.if_icmp .ge 39, 3) := by decide +kernel
theorem dX4_follow_22 : decode cX4_follow 22 = .ok (.aload_n 0, 1) := by decide +kernel
theorem dX4_follow_23 : decode cX4_follow 23 = .ok (.iload_n 2, 1) := by decide +kernel
theorem dX4_follow_24 : decode cX4_follow 24 = .ok (.invokevirtual 74, 3) := by decide +kernel
theorem dX4_follow_27 : decode cX4_follow 27 = .ok (.ifCond .eq 25, 3) := by decide +kernel
theorem dX4_follow_30 : decode cX4_follow 30 = .ok (.aload_n 0, 1) := by decide +kernel
theorem dX4_follow_31 : decode cX4_follow 31 = .ok (.getfield 16, 3) := by decide +kernel
theorem dX4_follow_34 : decode cX4_follow 34 = .ok (.iload_n 2, 1) := by decide +kernel
theorem dX4_follow_35 : decode cX4_follow 35 = .ok (.iaload, 1) := by decide +kernel
theorem dX4_follow_36 : decode cX4_follow 36 = .ok (.aload_n 0, 1) := by decide +kernel
theorem dX4_follow_37 : decode cX4_follow 37 = .ok (.getfield 25, 3) := by decide +kernel
theorem dX4_follow_40 : decode cX4_follow 40 = .ok (.invokevirtual 77, 3) := by decide +kernel
theorem dX4_follow_43 : decode cX4_follow 43 = .ok (.if_icmp .ne 7, 3) := by decide +kernel
theorem dX4_follow_46 : decode cX4_follow 46 = .ok (.iload_n 2, 1) := by decide +kernel
theorem dX4_follow_47 : decode cX4_follow 47 = .ok (.goto 4, 3) := by decide +kernel
theorem dX4_follow_50 : decode cX4_follow 50 = .ok (.iconst (-1), 1) := by decide +kernel
theorem dX4_follow_51 : decode cX4_follow 51 = .ok (.ireturn, 1) := by decide +kernel
theorem dX4_follow_52 : decode cX4_follow 52 = .ok (.iinc 2 1, 3) := by decide +kernel
theorem dX4_follow_55 : decode cX4_follow 55 = .ok (.goto (-41), 3) := by decide +kernel
theorem dX4_follow_58 : decode cX4_follow 58 = .ok (.bipush (-101), 2) := by decide +kernel
theorem dX4_follow_60 : decode cX4_follow 60 = .ok (.ireturn, 1) := by decide +kernel
theorem dX4_splitDecimals_0 : decode cX4_splitDecimals 0 = .ok (.aload_n 0, 1) := by decide +kernel
theorem dX4_splitDecimals_1 : decode cX4_splitDecimals 1 = .ok (.getfield 25, 3) := by decide +kernel
theorem dX4_splitDecimals_4 : decode cX4_splitDecimals 4 = .ok (.invokevirtual 80, 3) := by decide +kernel
theorem dX4_splitDecimals_7 : decode cX4_splitDecimals 7 = .ok (.pop, 1) := by decide +kernel
theorem dX4_splitDecimals_8 : decode cX4_splitDecimals 8 = .ok (.iload_n 1, 1) := by decide +kernel
theorem dX4_splitDecimals_9 : decode cX4_splitDecimals 9 = .ok (.istore_n 2, 1) := by decide +kernel
theorem dX4_splitDecimals_10 : decode cX4_splitDecimals 10 = .ok (.iconst 0, 1) := by decide +kernel
theorem dX4_splitDecimals_11 : decode cX4_splitDecimals 11 = .ok (.istore_n 3, 1) := by decide +kernel
theorem dX4_splitDecimals_12 : decode cX4_splitDecimals 12 = .ok (.iload_n 3, 1) := by decide +kernel
theorem dX4_splitDecimals_13 : decode cX4_splitDecimals 13 = .ok (.bipush 10, 2) := by decide +kernel
theorem dX4_splitDecimals_15 : decode cX4_splitDecimals 15 = .ok (.if_icmp .ge 29, 3) := by decide +kernel
theorem dX4_splitDecimals_18 : decode cX4_splitDecimals 18 = .ok (.iload_n 2, 1) := by decide +kernel
theorem dX4_splitDecimals_19 : decode cX4_splitDecimals 19 = .ok (.ifCond .le 25, 3) := by decide +kernel
theorem dX4_splitDecimals_22 : decode cX4_splitDecimals 22 = .ok (.aload_n 0, 1) := by decide +kernel
theorem dX4_splitDecimals_23 : decode cX4_splitDecimals 23 = .ok (.getfield 25, 3) := by decide +kernel
theorem dX4_splitDecimals_26 : decode cX4_splitDecimals 26 = .ok (.iload_n 2, 1) := by decide +kernel
theorem dX4_splitDecimals_27 : decode cX4_splitDecimals 27 = .ok (.bipush 10, 2) := by decide +kernel
theorem dX4_splitDecimals_29 : decode cX4_splitDecimals 29 = .ok (.irem, 1) := by decide +kernel
theorem dX4_splitDecimals_30 : decode cX4_splitDecimals 30 = .ok (.invokevirtual 83, 3) := by decide +kernel
theorem dX4_splitDecimals_33 : decode cX4_splitDecimals 33 = .ok (.iload_n 2, 1) := by decide +kernel
theorem dX4_splitDecimals_34 : decode cX4_splitDecimals 34 = .ok (.bipush 10, 2) := by decide +kernel
theorem dX4_splitDecimals_36 : decode cX4_splitDecimals 36 = .ok (.idiv, 1) := by decide +kernel
theorem dX4_splitDecimals_37 : decode cX4_splitDecimals 37 = .ok (.istore_n 2, 1) := by decide +kernel
theorem dX4_splitDecimals_38 : decode cX4_splitDecimals 38 = .ok (.iinc 3 1, 3) := by decide +kernel
theorem dX4_splitDecimals_41 : decode cX4_splitDecimals 41 = .ok (.goto (-29), 3) := by decide +kernel
theorem dX4_splitDecimals_44 : decode cX4_splitDecimals 44 = .ok (.return_, 1) := by decide +kernel
theorem dX4_beginsAsWanted_0 : decode cX4_beginsAsWanted 0 = .ok (.aload_n 0, 1) := by decide +kernel
theorem dX4_beginsAsWanted_1 : decode cX4_beginsAsWanted 1 = .ok (.getfield 25, 3) := by decide +kernel
theorem dX4_beginsAsWanted_4 : decode cX4_beginsAsWanted 4 = .ok (.invokevirtual 77, 3) := by decide +kernel
theorem dX4_beginsAsWanted_7 : decode cX4_beginsAsWanted 7 = .ok (.istore_n 2, 1) := by decide +kernel
theorem dX4_beginsAsWanted_8 : decode cX4_beginsAsWanted 8 = .ok (.iconst 0, 1) := by decide +kernel
theorem dX4_beginsAsWanted_9 : decode cX4_beginsAsWanted 9 = .ok (.istore_n 3, 1) := by decide +kernel
theorem dX4_beginsAsWanted_10 : decode cX4_beginsAsWanted 10 = .ok (.iload_n 3, 1) := by decide +kernel
theorem dX4_beginsAsWanted_11 : decode cX4_beginsAsWanted 11 = .ok (.iload_n 2, 1) := by decide +kernel
theorem dX4_beginsAsWanted_12 : decode cX4_beginsAsWanted 12 = .ok (.if_icmp .ge 32, 3) := by decide +kernel
theorem dX4_beginsAsWanted_15 : decode cX4_beginsAsWanted 15 = .ok (.aload_n 0, 1) := by decide +kernel
theorem dX4_beginsAsWanted_16 : decode cX4_beginsAsWanted 16 = .ok (.iload_n 1, 1) := by decide +kernel
theorem dX4_beginsAsWanted_17 : decode cX4_beginsAsWanted 17 = .ok (.iload_n 3, 1) := by decide +kernel
theorem dX4_beginsAsWanted_18 : decode cX4_beginsAsWanted 18 = .ok (.invokevirtual 64, 3) := by decide +kernel
theorem dX4_beginsAsWanted_21 : decode cX4_beginsAsWanted 21 = .ok (.aload_n 0, 1) := by decide +kernel
theorem dX4_beginsAsWanted_22 : decode cX4_beginsAsWanted 22 = .ok (.getfield 25, 3) := by decide +kernel
theorem dX4_beginsAsWanted_25 : decode cX4_beginsAsWanted 25 = .ok (.iload_n 2, 1) := by decide +kernel
theorem dX4_beginsAsWanted_26 : decode cX4_beginsAsWanted 26 = .ok (.iconst 1, 1) := by decide +kernel
theorem dX4_beginsAsWanted_27 : decode cX4_beginsAsWanted 27 = .ok (.isub, 1) := by decide +kernel
theorem dX4_beginsAsWanted_28 : decode cX4_beginsAsWanted 28 = .ok (.iload_n 3, 1) := by decide +kernel
theorem dX4_beginsAsWanted_29 : decode cX4_beginsAsWanted 29 = .ok (.isub, 1) := by decide +kernel
theorem dX4_beginsAsWanted_30 : decode cX4_beginsAsWanted 30 = .ok (.invokevirtual 86, 3) := by decide +kernel
theorem dX4_beginsAsWanted_33 : decode cX4_beginsAsWanted 33 = .ok (.if_icmp .eq 5, 3) := by decide +kernel
theorem dX4_beginsAsWanted_36 : decode cX4_beginsAsWanted 36 = .ok (.iconst 0, 1) := by decide +kernel
theorem dX4_beginsAsWanted_37 : decode cX4_beginsAsWanted 37 = .ok (.ireturn, 1) := by decide +kernel
theorem dX4_beginsAsWanted_38 : decode cX4_beginsAsWanted 38 = .ok (.iinc 3 1, 3) := by decide +kernel
theorem dX4_beginsAsWanted_41 : decode cX4_beginsAsWanted 41 = .ok (.goto (-31), 3) := by decide +kernel
theorem dX4_beginsAsWanted_44 : decode cX4_beginsAsWanted 44 = .ok (.iconst 1, 1) := by decide +kernel
theorem dX4_beginsAsWanted_45 : decode cX4_beginsAsWanted 45 = .ok (.ireturn, 1) := by decide +kernel
theorem dX5_init_0 : decode cX5_init 0 = .ok (.aload_n 0, 1) := by decide +kernel
theorem dX5_init_1 : decode cX5_init 1 = .ok (.invokespecial 3, 3) := by decide +kernel
theorem dX5_init_4 : decode cX5_init 4 = .ok (.aload_n 0, 1) := by decide +kernel
theorem dX5_init_5 : decode cX5_init 5 = .ok (.bipush 15, 2) := by decide +kernel
theorem dX5_init_7 : decode cX5_init 7 = .ok (.newarray .int, 2) := by decide +kernel
theorem dX5_init_9 : decode cX5_init 9 = .ok (.putfield 9, 3) := by decide +kernel
theorem dX5_init_12 : decode cX5_init 12 = .ok (.aload_n 0, 1) := by decide +kernel
theorem dX5_init_13 : decode cX5_init 13 = .ok (.iconst 5, 1) := by decide +kernel
theorem dX5_init_14 : decode cX5_init 14 = .ok (.sipush 196, 3) := by decide +kernel
theorem dX5_init_17 : decode cX5_init 17 = .ok (.multianewarray 15 2, 4) := by decide +kernel
theorem dX5_init_21 : decode cX5_init 21 = .ok (.putfield 17, 3) := by decide +kernel
theorem dX5_init_24 : decode cX5_init 24 = .ok (.aload_n 0, 1) := by decide +kernel
theorem dX5_init_25 : decode cX5_init 25 = .ok (.iconst 5, 1) := by decide +kernel
theorem dX5_init_26 : decode cX5_init 26 = .ok (.sipush 196, 3) := by decide +kernel
theorem dX5_init_29 : decode cX5_init 29 = .ok (.multianewarray 15 2, 4) := by decide +kernel
theorem dX5_init_33 : decode cX5_init 33 = .ok (.putfield 20, 3) := by decide +kernel
theorem dX5_init_36 : decode cX5_init 36 = .ok (.aload_n 0, 1) := by decide +kernel
theorem dX5_init_37 : decode cX5_init 37 = .ok (.sipush 196, 3) := by decide +kernel
theorem dX5_init_40 : decode cX5_init 40 = .ok (.newarray .int, 2) := by decide +kernel
theorem dX5_init_42 : decode cX5_init 42 = .ok (.putfield 23, 3) := by decide +kernel
theorem dX5_init_45 : decode cX5_init 45 = .ok (.return_, 1) := by decide +kernel
theorem dX5_planInto_0 : decode cX5_planInto 0 = .ok (.aload_n 2, 1) := by decide +kernel
theorem dX5_planInto_1 : decode cX5_planInto 1 = .ok (.invokevirtual 26, 3) := by decide +kernel
theorem dX5_planInto_4 : decode cX5_planInto 4 = .ok (.bipush 14, 2) := by decide +kernel
theorem dX5_planInto_6 : decode cX5_planInto 6 = .ok (.invokestatic 32, 3) := by decide +kernel
theorem dX5_planInto_9 : decode cX5_planInto 9 = .ok (.istore 4, 2) := by decide +kernel
theorem dX5_planInto_11 : decode cX5_planInto 11 = .ok (.iconst 0, 1) := by decide +kernel
theorem dX5_planInto_12 : decode cX5_planInto 12 = .ok (.istore 5, 2) := by decide +kernel
theorem dX5_planInto_14 : decode cX5_planInto 14 = .ok (.iload 5, 2) := by decide +kernel
theorem dX5_planInto_16 : decode cX5_planInto 16 = .ok (.iload 4, 2) := by decide +kernel
theorem dX5_planInto_18 : decode cX5_planInto 18 = .ok (.if_icmp .ge 32, 3) := by decide +kernel
theorem dX5_planInto_21 : decode cX5_planInto 21 = .ok (.aload_n 0, 1) := by decide +kernel
theorem dX5_planInto_22 : decode cX5_planInto 22 = .ok (.getfield 9, 3) := by decide +kernel
theorem dX5_planInto_25 : decode cX5_planInto 25 = .ok (.iload 5, 2) := by decide +kernel
theorem dX5_planInto_27 : decode cX5_planInto 27 = .ok (.iconst 1, 1) := by decide +kernel
theorem dX5_planInto_28 : decode cX5_planInto 28 = .ok (.iadd, 1) := by decide +kernel
theorem dX5_planInto_29 : decode cX5_planInto 29 = .ok (.aload_n 0, 1) := by decide +kernel
theorem dX5_planInto_30 : decode cX5_planInto 30 = .ok (.getfield 9, 3) := by decide +kernel
theorem dX5_planInto_33 : decode cX5_planInto 33 = .ok (.iload 5, 2) := by decide +kernel
theorem dX5_planInto_35 : decode cX5_planInto 35 = .ok (.iaload, 1) := by decide +kernel
theorem dX5_planInto_36 : decode cX5_planInto 36 = .ok (.aload_n 2, 1) := by decide +kernel
theorem dX5_planInto_37 : decode cX5_planInto 37 = .ok (.iload 5, 2) := by decide +kernel
theorem dX5_planInto_39 : decode cX5_planInto 39 = .ok (.invokevirtual 38, 3) := by decide +kernel
theorem dX5_planInto_42 : decode cX5_planInto 42 = .ok (.iadd, 1) := by decide +kernel
theorem dX5_planInto_43 : decode cX5_planInto 43 = .ok (.iastore, 1) := by decide +kernel
theorem dX5_planInto_44 : decode cX5_planInto 44 = .ok (.iinc 5 1, 3) := by decide +kernel
theorem dX5_planInto_47 : decode cX5_planInto 47 = .ok (.goto (-33), 3) := by decide +kernel
theorem dX5_planInto_50 : decode cX5_planInto 50 = .ok (.iconst 1, 1) := by decide +kernel
theorem dX5_planInto_51 : decode cX5_planInto 51 = .ok (.istore 5, 2) := by decide +kernel
theorem dX5_planInto_53 : decode cX5_planInto 53 = .ok (.iload 5, 2) := by decide +kernel
theorem dX5_planInto_55 : decode cX5_planInto 55 = .ok (.iload 4, 2) := by decide +kernel
theorem dX5_planInto_57 : decode cX5_planInto 57 = .ok (.if_icmp .gt 37, 3) := by decide +kernel
theorem dX5_planInto_60 : decode cX5_planInto 60 = .ok (.iconst 0, 1) := by decide +kernel
theorem dX5_planInto_61 : decode cX5_planInto 61 = .ok (.istore 6, 2) := by decide +kernel
theorem dX5_planInto_63 : decode cX5_planInto 63 = .ok (.iload 6, 2) := by decide +kernel
theorem dX5_planInto_65 : decode cX5_planInto 65 = .ok (.iload 5, 2) := by decide +kernel
theorem dX5_planInto_67 : decode cX5_planInto 67 = .ok (.iadd, 1) := by decide +kernel
theorem dX5_planInto_68 : decode cX5_planInto 68 = .ok (.iload 4, 2) := by decide +kernel
theorem dX5_planInto_70 : decode cX5_planInto 70 = .ok (.if_icmp .gt 18, 3) := by decide +kernel
theorem dX5_planInto_73 : decode cX5_planInto 73 = .ok (.aload_n 0, 1) := by decide +kernel
theorem dX5_planInto_74 : decode cX5_planInto 74 = .ok (.iload 6, 2) := by decide +kernel
theorem dX5_planInto_76 : decode cX5_planInto 76 = .ok (.iload 5, 2) := by decide +kernel
theorem dX5_planInto_78 : decode cX5_planInto 78 = .ok (.iload_n 3, 1) := by decide +kernel
theorem dX5_planInto_79 : decode cX5_planInto 79 = .ok (.invokevirtual 42, 3) := by decide +kernel
theorem dX5_planInto_82 : decode cX5_planInto 82 = .ok (.iinc 6 1, 3) := by decide +kernel
theorem dX5_planInto_85 : decode cX5_planInto 85 = .ok (.goto (-22), 3) := by decide +kernel
theorem dX5_planInto_88 : decode cX5_planInto 88 = .ok (.iinc 5 1, 3) := by decide +kernel
theorem dX5_planInto_91 : decode cX5_planInto 91 = .ok (.goto (-38), 3) := by decide +kernel
theorem dX5_planInto_94 : decode cX5_planInto 94 = .ok (.aload_n 1, 1) := by decide +kernel
theorem dX5_planInto_95 : decode cX5_planInto 95 = .ok (.iload_n 3, 1) := by decide +kernel
theorem dX5_planInto_96 : decode cX5_planInto 96 = .ok (.iload 4, 2) := by decide +kernel
theorem dX5_planInto_98 : decode cX5_planInto 98 = .ok (.invokevirtual 46, 3) := by decide +kernel
theorem dX5_planInto_101 : decode cX5_planInto 101 = .ok (.iconst 0, 1) := by decide +kernel
theorem dX5_planInto_102 : decode cX5_planInto 102 = .ok (.istore 5, 2) := by decide +kernel
theorem dX5_planInto_104 : decode cX5_planInto 104 = .ok (.iload 5, 2) := by decide +kernel
theorem dX5_planInto_106 : decode cX5_planInto 106 = .ok (.iload 4, 2) := by decide +kernel
theorem dX5_planInto_108 : decode cX5_planInto 108 = .ok (.if_icmp .ge 18, 3) := by decide +kernel
theorem dX5_planInto_111 : decode cX5_planInto 111 = .ok (.aload_n 0, 1) := by decide +kernel
theorem dX5_planInto_112 : decode cX5_planInto 112 = .ok (.aload_n 1, 1) := by decide +kernel
theorem dX5_planInto_113 : decode cX5_planInto 113 = .ok (.iload 5, 2) := by decide +kernel
theorem dX5_planInto_115 : decode cX5_planInto 115 = .ok (.iload 4, 2) := by decide +kernel
theorem dX5_planInto_117 : decode cX5_planInto 117 = .ok (.invokevirtual 52, 3) := by decide +kernel
theorem dX5_planInto_120 : decode cX5_planInto 120 = .ok (.iinc 5 1, 3) := by decide +kernel
theorem dX5_planInto_123 : decode cX5_planInto 123 = .ok (.goto (-19), 3) := by decide +kernel
theorem dX5_planInto_126 : decode cX5_planInto 126 = .ok (.aload_n 1, 1) := by decide +kernel
theorem dX5_planInto_127 : decode cX5_planInto 127 = .ok (.areturn, 1) := by decide +kernel
theorem dX5_run_0 : decode cX5_run 0 = .ok (.iload_n 0, 1) := by decide +kernel
theorem dX5_run_1 : decode cX5_run 1 = .ok (.ifCond .lt 20, 3) := by decide +kernel
theorem dX5_run_4 : decode cX5_run 4 = .ok (.iload_n 1, 1) := by decide +kernel
theorem dX5_run_5 : decode cX5_run 5 = .ok (.iconst 1, 1) := by decide +kernel
theorem dX5_run_6 : decode cX5_run 6 = .ok (.if_icmp .lt 15, 3) := by decide +kernel
theorem dX5_run_9 : decode cX5_run 9 = .ok (.iload_n 1, 1) := by decide +kernel
theorem dX5_run_10 : decode cX5_run 10 = .ok (.bipush 14, 2) := by decide +kernel
theorem dX5_run_12 : decode cX5_run 12 = .ok (.iload_n 0, 1) := by decide +kernel
theorem dX5_run_13 : decode cX5_run 13 = .ok (.isub, 1) := by decide +kernel
theorem dX5_run_14 : decode cX5_run 14 = .ok (.if_icmp .gt 7, 3) := by decide +kernel
theorem dX5_run_17 : decode cX5_run 17 = .ok (.iconst 1, 1) := by decide +kernel
theorem dX5_run_18 : decode cX5_run 18 = .ok (.goto 4, 3) := by decide +kernel
theorem dX5_run_21 : decode cX5_run 21 = .ok (.iconst 0, 1) := by decide +kernel
theorem dX5_run_22 : decode cX5_run 22 = .ok (.istore_n 2, 1) := by decide +kernel
theorem dX5_run_23 : decode cX5_run 23 = .ok (.iload_n 2, 1) := by decide +kernel
theorem dX5_run_24 : decode cX5_run 24 = .ok (.ifCond .eq 14, 3) := by decide +kernel
theorem dX5_run_27 : decode cX5_run 27 = .ok (.iload_n 0, 1) := by decide +kernel
theorem dX5_run_28 : decode cX5_run 28 = .ok (.bipush 14, 2) := by decide +kernel
theorem dX5_run_30 : decode cX5_run 30 = .ok (.imul, 1) := by decide +kernel
theorem dX5_run_31 : decode cX5_run 31 = .ok (.iload_n 1, 1) := by decide +kernel
theorem dX5_run_32 : decode cX5_run 32 = .ok (.iadd, 1) := by decide +kernel
theorem dX5_run_33 : decode cX5_run 33 = .ok (.iconst 1, 1) := by decide +kernel
theorem dX5_run_34 : decode cX5_run 34 = .ok (.isub, 1) := by decide +kernel
theorem dX5_run_35 : decode cX5_run 35 = .ok (.goto 4, 3) := by decide +kernel
theorem dX5_run_38 : decode cX5_run 38 = .ok (.iconst 0, 1) := by decide +kernel
theorem dX5_run_39 : decode cX5_run 39 = .ok (.ireturn, 1) := by decide +kernel
theorem dX5_sumOf_0 : decode cX5_sumOf 0 = .ok (.iload_n 1, 1) := by decide +kernel
theorem dX5_sumOf_1 : decode cX5_sumOf 1 = .ok (.ifCond .lt 20, 3) := by decide +kernel
theorem dX5_sumOf_4 : decode cX5_sumOf 4 = .ok (.iload_n 2, 1) := by decide +kernel
theorem dX5_sumOf_5 : decode cX5_sumOf 5 = .ok (.iconst 1, 1) := by decide +kernel
theorem dX5_sumOf_6 : decode cX5_sumOf 6 = .ok (.if_icmp .lt 15, 3) := by decide +kernel
theorem dX5_sumOf_9 : decode cX5_sumOf 9 = .ok (.iload_n 2, 1) := by decide +kernel
theorem dX5_sumOf_10 : decode cX5_sumOf 10 = .ok (.bipush 14, 2) := by decide +kernel
theorem dX5_sumOf_12 : decode cX5_sumOf 12 = .ok (.iload_n 1, 1) := by decide +kernel
theorem dX5_sumOf_13 : decode cX5_sumOf 13 = .ok (.isub, 1) := by decide +kernel
theorem dX5_sumOf_14 : decode cX5_sumOf 14 = .ok (.if_icmp .gt 7, 3) := by decide +kernel
theorem dX5_sumOf_17 : decode cX5_sumOf 17 = .ok (.iconst 1, 1) := by decide +kernel
theorem dX5_sumOf_18 : decode cX5_sumOf 18 = .ok (.goto 4, 3) := by decide +kernel
theorem dX5_sumOf_21 : decode cX5_sumOf 21 = .ok (.iconst 0, 1) := by decide +kernel
theorem dX5_sumOf_22 : decode cX5_sumOf 22 = .ok (.istore_n 3, 1) := by decide +kernel
theorem dX5_sumOf_23 : decode cX5_sumOf 23 = .ok (.iload_n 3, 1) := by decide +kernel
theorem dX5_sumOf_24 : decode cX5_sumOf 24 = .ok (.ifCond .eq 21, 3) := by decide +kernel
theorem dX5_sumOf_27 : decode cX5_sumOf 27 = .ok (.aload_n 0, 1) := by decide +kernel
theorem dX5_sumOf_28 : decode cX5_sumOf 28 = .ok (.getfield 9, 3) := by decide +kernel
theorem dX5_sumOf_31 : decode cX5_sumOf 31 = .ok (.iload_n 1, 1) := by decide +kernel
theorem dX5_sumOf_32 : decode cX5_sumOf 32 = .ok (.iload_n 2, 1) := by decide +kernel
theorem dX5_sumOf_33 : decode cX5_sumOf 33 = .ok (.iadd, 1) := by decide +kernel
theorem dX5_sumOf_34 : decode cX5_sumOf 34 = .ok (.iaload, 1) := by decide +kernel
theorem dX5_sumOf_35 : decode cX5_sumOf 35 = .ok (.aload_n 0, 1) := by decide +kernel
theorem dX5_sumOf_36 : decode cX5_sumOf 36 = .ok (.getfield 9, 3) := by decide +kernel
theorem dX5_sumOf_39 : decode cX5_sumOf 39 = .ok (.iload_n 1, 1) := by decide +kernel
theorem dX5_sumOf_40 : decode cX5_sumOf 40 = .ok (.iaload, 1) := by decide +kernel
theorem dX5_sumOf_41 : decode cX5_sumOf 41 = .ok (.isub, 1) := by decide +kernel
theorem dX5_sumOf_42 : decode cX5_sumOf 42 = .ok (.goto 4, 3) := by decide +kernel
theorem dX5_sumOf_45 : decode cX5_sumOf 45 = .ok (.iconst 0, 1) := by decide +kernel
theorem dX5_sumOf_46 : decode cX5_sumOf 46 = .ok (.ireturn, 1) := by decide +kernel
theorem dX5_planRun_0 : decode cX5_planRun 0 = .ok (.iload_n 1, 1) := by decide +kernel
theorem dX5_planRun_1 : decode cX5_planRun 1 = .ok (.iload_n 2, 1) := by decide +kernel
theorem dX5_planRun_2 : decode cX5_planRun 2 = .ok (.invokestatic 56, 3) := by decide +kernel
theorem dX5_planRun_5 : decode cX5_planRun 5 = .ok (.istore 4, 2) := by decide +kernel
theorem dX5_planRun_7 : decode cX5_planRun 7 = .ok (.iconst 1, 1) := by decide +kernel
theorem dX5_planRun_8 : decode cX5_planRun 8 = .ok (.istore 5, 2) := by decide +kernel
theorem dX5_planRun_10 : decode cX5_planRun 10 = .ok (.aload_n 0, 1) := by decide +kernel
theorem dX5_planRun_11 : decode cX5_planRun 11 = .ok (.getfield 17, 3) := by decide +kernel
theorem dX5_planRun_14 : decode cX5_planRun 14 = .ok (.iconst 1, 1) := by decide +kernel
theorem dX5_planRun_15 : decode cX5_planRun 15 = .ok (.aaload, 1) := by decide +kernel
theorem dX5_planRun_16 : decode cX5_planRun 16 = .ok (.iload 4, 2) := by decide +kernel
theorem dX5_planRun_18 : decode cX5_planRun 18 = .ok (.iconst 0, 1) := by decide +kernel
theorem dX5_planRun_19 : decode cX5_planRun 19 = .ok (.iastore, 1) := by decide +kernel
theorem dX5_planRun_20 : decode cX5_planRun 20 = .ok (.aload_n 0, 1) := by decide +kernel
theorem dX5_planRun_21 : decode cX5_planRun 21 = .ok (.getfield 20, 3) := by decide +kernel
theorem dX5_planRun_24 : decode cX5_planRun 24 = .ok (.iconst 1, 1) := by decide +kernel
theorem dX5_planRun_25 : decode cX5_planRun 25 = .ok (.aaload, 1) := by decide +kernel
theorem dX5_planRun_26 : decode cX5_planRun 26 = .ok (.iload 4, 2) := by decide +kernel
theorem dX5_planRun_28 : decode cX5_planRun 28 = .ok (.iload_n 2, 1) := by decide +kernel
theorem dX5_planRun_29 : decode cX5_planRun 29 = .ok (.iastore, 1) := by decide +kernel
theorem dX5_planRun_30 : decode cX5_planRun 30 = .ok (.iconst 2, 1) := by decide +kernel
theorem dX5_planRun_31 : decode cX5_planRun 31 = .ok (.istore 6, 2) := by decide +kernel
theorem dX5_planRun_33 : decode cX5_planRun 33 = .ok (.iload 6, 2) := by decide +kernel
theorem dX5_planRun_35 : decode cX5_planRun 35 = .ok (.iconst 4, 1) := by decide +kernel
theorem dX5_planRun_36 : decode cX5_planRun 36 = .ok (.if_icmp .gt 62, 3) := by decide +kernel
theorem dX5_planRun_39 : decode cX5_planRun 39 = .ok (.iload 6, 2) := by decide +kernel
theorem dX5_planRun_41 : decode cX5_planRun 41 = .ok (.iload_n 3, 1) := by decide +kernel
theorem dX5_planRun_42 : decode cX5_planRun 42 = .ok (.if_icmp .gt 56, 3) := by decide +kernel
theorem dX5_planRun_45 : decode cX5_planRun 45 = .ok (.iload 6, 2) := by decide +kernel
theorem dX5_planRun_47 : decode cX5_planRun 47 = .ok (.iload_n 2, 1) := by decide +kernel
theorem dX5_planRun_48 : decode cX5_planRun 48 = .ok (.if_icmp .gt 50, 3) := by decide +kernel
theorem dX5_planRun_51 : decode cX5_planRun 51 = .ok (.aload_n 0, 1) := by decide +kernel
theorem dX5_planRun_52 : decode cX5_planRun 52 = .ok (.iload 6, 2) := by decide +kernel
theorem dX5_planRun_54 : decode cX5_planRun 54 = .ok (.iload_n 1, 1) := by decide +kernel
theorem dX5_planRun_55 : decode cX5_planRun 55 = .ok (.iload_n 2, 1) := by decide +kernel
theorem dX5_planRun_56 : decode cX5_planRun 56 = .ok (.invokevirtual 59, 3) := by decide +kernel
theorem dX5_planRun_59 : decode cX5_planRun 59 = .ok (.iload 5, 2) := by decide +kernel
theorem dX5_planRun_61 : decode cX5_planRun 61 = .ok (.iconst 1, 1) := by decide +kernel
theorem dX5_planRun_62 : decode cX5_planRun 62 = .ok (.if_icmp .eq 26, 3) := by decide +kernel
theorem dX5_planRun_65 : decode cX5_planRun 65 = .ok (.aload_n 0, 1) := by decide +kernel
theorem dX5_planRun_66 : decode cX5_planRun 66 = .ok (.getfield 17, 3) := by decide +kernel
theorem dX5_planRun_69 : decode cX5_planRun 69 = .ok (.iload 6, 2) := by decide +kernel
theorem dX5_planRun_71 : decode cX5_planRun 71 = .ok (.aaload, 1) := by decide +kernel
theorem dX5_planRun_72 : decode cX5_planRun 72 = .ok (.iload 4, 2) := by decide +kernel
theorem dX5_planRun_74 : decode cX5_planRun 74 = .ok (.iaload, 1) := by decide +kernel
theorem dX5_planRun_75 : decode cX5_planRun 75 = .ok (.aload_n 0, 1) := by decide +kernel
theorem dX5_planRun_76 : decode cX5_planRun 76 = .ok (.getfield 17, 3) := by decide +kernel
theorem dX5_planRun_79 : decode cX5_planRun 79 = .ok (.iload 5, 2) := by decide +kernel
theorem dX5_planRun_81 : decode cX5_planRun 81 = .ok (.aaload, 1) := by decide +kernel
theorem dX5_planRun_82 : decode cX5_planRun 82 = .ok (.iload 4, 2) := by decide +kernel
theorem dX5_planRun_84 : decode cX5_planRun 84 = .ok (.iaload, 1) := by decide +kernel
theorem dX5_planRun_85 : decode cX5_planRun 85 = .ok (.if_icmp .ge 7, 3) := by decide +kernel
theorem dX5_planRun_88 : decode cX5_planRun 88 = .ok (.iload 6, 2) := by decide +kernel
theorem dX5_planRun_90 : decode cX5_planRun 90 = .ok (.istore 5, 2) := by decide +kernel
theorem dX5_planRun_92 : decode cX5_planRun 92 = .ok (.iinc 6 1, 3) := by decide +kernel
theorem dX5_planRun_95 : decode cX5_planRun 95 = .ok (.goto (-62), 3) := by decide +kernel
theorem dX5_planRun_98 : decode cX5_planRun 98 = .ok (.aload_n 0, 1) := by decide +kernel
theorem dX5_planRun_99 : decode cX5_planRun 99 = .ok (.getfield 23, 3) := by decide +kernel
theorem dX5_planRun_102 : decode cX5_planRun 102 = .ok (.iload 4, 2) := by decide +kernel
theorem dX5_planRun_104 : decode cX5_planRun 104 = .ok (.iload 5, 2) := by decide +kernel
theorem dX5_planRun_106 : decode cX5_planRun 106 = .ok (.iastore, 1) := by decide +kernel
theorem dX5_planRun_107 : decode cX5_planRun 107 = .ok (.iload 5, 2) := by decide +kernel
theorem dX5_planRun_109 : decode cX5_planRun 109 = .ok (.iconst 1, 1) := by decide +kernel
theorem dX5_planRun_110 : decode cX5_planRun 110 = .ok (.if_icmp .le 29, 3) := by decide +kernel
theorem dX5_planRun_113 : decode cX5_planRun 113 = .ok (.aload_n 0, 1) := by decide +kernel
theorem dX5_planRun_114 : decode cX5_planRun 114 = .ok (.getfield 17, 3) := by decide +kernel
theorem dX5_planRun_117 : decode cX5_planRun 117 = .ok (.iconst 1, 1) := by decide +kernel
theorem dX5_planRun_118 : decode cX5_planRun 118 = .ok (.aaload, 1) := by decide +kernel
theorem dX5_planRun_119 : decode cX5_planRun 119 = .ok (.iload 4, 2) := by decide +kernel
theorem dX5_planRun_121 : decode cX5_planRun 121 = .ok (.aload_n 0, 1) := by decide +kernel
theorem dX5_planRun_122 : decode cX5_planRun 122 = .ok (.getfield 17, 3) := by decide +kernel
theorem dX5_planRun_125 : decode cX5_planRun 125 = .ok (.iload 5, 2) := by decide +kernel
theorem dX5_planRun_127 : decode cX5_planRun 127 = .ok (.aaload, 1) := by decide +kernel
theorem dX5_planRun_128 : decode cX5_planRun 128 = .ok (.iload 4, 2) := by decide +kernel
theorem dX5_planRun_130 : decode cX5_planRun 130 = .ok (.iaload, 1) := by decide +kernel
theorem dX5_planRun_131 : decode cX5_planRun 131 = .ok (.aload_n 0, 1) := by decide +kernel
theorem dX5_planRun_132 : decode cX5_planRun 132 = .ok (.iload_n 1, 1) := by decide +kernel
theorem dX5_planRun_133 : decode cX5_planRun 133 = .ok (.iload_n 2, 1) := by decide +kernel
theorem dX5_planRun_134 : decode cX5_planRun 134 = .ok (.invokevirtual 62, 3) := by decide +kernel
theorem dX5_planRun_137 : decode cX5_planRun 137 = .ok (.iadd, 1) := by decide +kernel
theorem dX5_planRun_138 : decode cX5_planRun 138 = .ok (.iastore, 1) := by decide +kernel
theorem dX5_planRun_139 : decode cX5_planRun 139 = .ok (.return_, 1) := by decide +kernel
theorem dX5_planParts_0 : decode cX5_planParts 0 = .ok (.iload_n 1, 1) := by decide +kernel
theorem dX5_planParts_1 : decode cX5_planParts 1 = .ok (.iconst 2, 1) := by decide +kernel
theorem dX5_planParts_2 : decode cX5_planParts 2 = .ok (.if_icmp .lt 8, 3) := by decide +kernel
theorem dX5_planParts_5 : decode cX5_planParts 5 = .ok (.iload_n 1, 1) := by decide +kernel
theorem dX5_planParts_6 : decode cX5_planParts 6 = .ok (.iconst 4, 1) := by decide +kernel
theorem dX5_planParts_7 : decode cX5_planParts 7 = .ok (.if_icmp .le 4, 3) := by decide +kernel
theorem dX5_planParts_10 : decode cX5_planParts 10 = .ok (.return_, 1) := by decide +kernel
theorem dX5_planParts_11 : decode cX5_planParts 11 = .ok (.iconst 0, 1) := by decide +kernel
theorem dX5_planParts_12 : decode cX5_planParts 12 = .ok (.istore 4, 2) := by decide +kernel
theorem dX5_planParts_14 : decode cX5_planParts 14 = .ok (.iconst 0, 1) := by decide +kernel
theorem dX5_planParts_15 : decode cX5_planParts 15 = .ok (.istore 5, 2) := by decide +kernel
theorem dX5_planParts_17 : decode cX5_planParts 17 = .ok (.iconst 1, 1) := by decide +kernel
theorem dX5_planParts_18 : decode cX5_planParts 18 = .ok (.istore 6, 2) := by decide +kernel
theorem dX5_planParts_20 : decode cX5_planParts 20 = .ok (.iload 6, 2) := by decide +kernel
theorem dX5_planParts_22 : decode cX5_planParts 22 = .ok (.iload_n 3, 1) := by decide +kernel
theorem dX5_planParts_23 : decode cX5_planParts 23 = .ok (.iload_n 1, 1) := by decide +kernel
theorem dX5_planParts_24 : decode cX5_planParts 24 = .ok (.isub, 1) := by decide +kernel
theorem dX5_planParts_25 : decode cX5_planParts 25 = .ok (.iconst 1, 1) := by decide +kernel
theorem dX5_planParts_26 : decode cX5_planParts 26 = .ok (.iadd, 1) := by decide +kernel
theorem dX5_planParts_27 : decode cX5_planParts 27 = .ok (.if_icmp .gt 65, 3) := by decide +kernel
theorem dX5_planParts_30 : decode cX5_planParts 30 = .ok (.aload_n 0, 1) := by decide +kernel
theorem dX5_planParts_31 : decode cX5_planParts 31 = .ok (.getfield 17, 3) := by decide +kernel
theorem dX5_planParts_34 : decode cX5_planParts 34 = .ok (.iconst 1, 1) := by decide +kernel
theorem dX5_planParts_35 : decode cX5_planParts 35 = .ok (.aaload, 1) := by decide +kernel
theorem dX5_planParts_36 : decode cX5_planParts 36 = .ok (.iload_n 2, 1) := by decide +kernel
theorem dX5_planParts_37 : decode cX5_planParts 37 = .ok (.iload 6, 2) := by decide +kernel
theorem dX5_planParts_39 : decode cX5_planParts 39 = .ok (.invokestatic 56, 3) := by decide +kernel
theorem dX5_planParts_42 : decode cX5_planParts 42 = .ok (.iaload, 1) := by decide +kernel
theorem dX5_planParts_43 : decode cX5_planParts 43 = .ok (.aload_n 0, 1) := by decide +kernel
theorem dX5_planParts_44 : decode cX5_planParts 44 = .ok (.getfield 17, 3) := by decide +kernel
theorem dX5_planParts_47 : decode cX5_planParts 47 = .ok (.iload_n 1, 1) := by decide +kernel
theorem dX5_planParts_48 : decode cX5_planParts 48 = .ok (.iconst 1, 1) := by decide +kernel
theorem dX5_planParts_49 : decode cX5_planParts 49 = .ok (.isub, 1) := by decide +kernel
theorem dX5_planParts_50 : decode cX5_planParts 50 = .ok (.aaload, 1) := by decide +kernel
theorem dX5_planParts_51 : decode cX5_planParts 51 = .ok (.iload_n 2, 1) := by decide +kernel
theorem dX5_planParts_52 : decode cX5_planParts 52 = .ok (.iload 6, 2) := by decide +kernel
theorem dX5_planParts_54 : decode cX5_planParts 54 = .ok (.iadd, 1) := by decide +kernel
theorem dX5_planParts_55 : decode cX5_planParts 55 = .ok (.iload_n 3, 1) := by decide +kernel
theorem dX5_planParts_56 : decode cX5_planParts 56 = .ok (.iload 6, 2) := by decide +kernel
theorem dX5_planParts_58 : decode cX5_planParts 58 = .ok (.isub, 1) := by decide +kernel
theorem dX5_planParts_59 : decode cX5_planParts 59 = .ok (.invokestatic 56, 3) := by decide +kernel
theorem dX5_planParts_62 : decode cX5_planParts 62 = .ok (.iaload, 1) := by decide +kernel
theorem dX5_planParts_63 : decode cX5_planParts 63 = .ok (.iadd, 1) := by decide +kernel
theorem dX5_planParts_64 : decode cX5_planParts 64 = .ok (.istore 7, 2) := by decide +kernel
theorem dX5_planParts_66 : decode cX5_planParts 66 = .ok (.iload 5, 2) := by decide +kernel
theorem dX5_planParts_68 : decode cX5_planParts 68 = .ok (.ifCond .eq 10, 3) := by decide +kernel
theorem dX5_planParts_71 : decode cX5_planParts 71 = .ok (.iload 7, 2) := by decide +kernel
theorem dX5_planParts_73 : decode cX5_planParts 73 = .ok (.iload 4, 2) := by decide +kernel
theorem dX5_planParts_75 : decode cX5_planParts 75 = .ok (.if_icmp .ge 11, 3) := by decide +kernel
theorem dX5_planParts_78 : decode cX5_planParts 78 = .ok (.iload 7, 2) := by decide +kernel
theorem dX5_planParts_80 : decode cX5_planParts 80 = .ok (.istore 4, 2) := by decide +kernel
theorem dX5_planParts_82 : decode cX5_planParts 82 = .ok (.iload 6, 2) := by decide +kernel
theorem dX5_planParts_84 : decode cX5_planParts 84 = .ok (.istore 5, 2) := by decide +kernel
theorem dX5_planParts_86 : decode cX5_planParts 86 = .ok (.iinc 6 1, 3) := by decide +kernel
theorem dX5_planParts_89 : decode cX5_planParts 89 = .ok (.goto (-69), 3) := by decide +kernel
theorem dX5_planParts_92 : decode cX5_planParts 92 = .ok (.aload_n 0, 1) := by decide +kernel
theorem dX5_planParts_93 : decode cX5_planParts 93 = .ok (.getfield 17, 3) := by decide +kernel
theorem dX5_planParts_96 : decode cX5_planParts 96 = .ok (.iload_n 1, 1) := by decide +kernel
theorem dX5_planParts_97 : decode cX5_planParts 97 = .ok (.aaload, 1) := by decide +kernel
theorem dX5_planParts_98 : decode cX5_planParts 98 = .ok (.iload_n 2, 1) := by decide +kernel
theorem dX5_planParts_99 : decode cX5_planParts 99 = .ok (.iload_n 3, 1) := by decide +kernel
theorem dX5_planParts_100 : decode cX5_planParts 100 = .ok (.invokestatic 56, 3) := by decide +kernel
theorem dX5_planParts_103 : decode cX5_planParts 103 = .ok (.iload 4, 2) := by decide +kernel
theorem dX5_planParts_105 : decode cX5_planParts 105 = .ok (.iastore, 1) := by decide +kernel
theorem dX5_planParts_106 : decode cX5_planParts 106 = .ok (.aload_n 0, 1) := by decide +kernel
theorem dX5_planParts_107 : decode cX5_planParts 107 = .ok (.getfield 20, 3) := by decide +kernel
theorem dX5_planParts_110 : decode cX5_planParts 110 = .ok (.iload_n 1, 1) := by decide +kernel
theorem dX5_planParts_111 : decode cX5_planParts 111 = .ok (.aaload, 1) := by decide +kernel
theorem dX5_planParts_112 : decode cX5_planParts 112 = .ok (.iload_n 2, 1) := by decide +kernel
theorem dX5_planParts_113 : decode cX5_planParts 113 = .ok (.iload_n 3, 1) := by decide +kernel
theorem dX5_planParts_114 : decode cX5_planParts 114 = .ok (.invokestatic 56, 3) := by decide +kernel
theorem dX5_planParts_117 : decode cX5_planParts 117 = .ok (.iload 5, 2) := by decide +kernel
theorem dX5_planParts_119 : decode cX5_planParts 119 = .ok (.iastore, 1) := by decide +kernel
theorem dX5_planParts_120 : decode cX5_planParts 120 = .ok (.return_, 1) := by decide +kernel
theorem dX5_firstSizeOf_0 : decode cX5_firstSizeOf 0 = .ok (.iload_n 1, 1) := by decide +kernel
theorem dX5_firstSizeOf_1 : decode cX5_firstSizeOf 1 = .ok (.iconst 1, 1) := by decide +kernel
theorem dX5_firstSizeOf_2 : decode cX5_firstSizeOf 2 = .ok (.if_icmp .lt 23, 3) := by decide +kernel
theorem dX5_firstSizeOf_5 : decode cX5_firstSizeOf 5 = .ok (.iload_n 1, 1) := by decide +kernel
theorem dX5_firstSizeOf_6 : decode cX5_firstSizeOf 6 = .ok (.iconst 4, 1) := by decide +kernel
theorem dX5_firstSizeOf_7 : decode cX5_firstSizeOf 7 = .ok (.if_icmp .gt 18, 3) := by decide +kernel
theorem dX5_firstSizeOf_10 : decode cX5_firstSizeOf 10 = .ok (.aload_n 0, 1) := by decide +kernel
theorem dX5_firstSizeOf_11 : decode cX5_firstSizeOf 11 = .ok (.getfield 20, 3) := by decide +kernel
theorem dX5_firstSizeOf_14 : decode cX5_firstSizeOf 14 = .ok (.iload_n 1, 1) := by decide +kernel
theorem dX5_firstSizeOf_15 : decode cX5_firstSizeOf 15 = .ok (.aaload, 1) := by decide +kernel
theorem dX5_firstSizeOf_16 : decode cX5_firstSizeOf 16 = .ok (.iload_n 2, 1) := by decide +kernel
theorem dX5_firstSizeOf_17 : decode cX5_firstSizeOf 17 = .ok (.iload_n 3, 1) := by decide +kernel
theorem dX5_firstSizeOf_18 : decode cX5_firstSizeOf 18 = .ok (.invokestatic 56, 3) := by decide +kernel
theorem dX5_firstSizeOf_21 : decode cX5_firstSizeOf 21 = .ok (.iaload, 1) := by decide +kernel
theorem dX5_firstSizeOf_22 : decode cX5_firstSizeOf 22 = .ok (.goto 4, 3) := by decide +kernel
theorem dX5_firstSizeOf_25 : decode cX5_firstSizeOf 25 = .ok (.iload_n 3, 1) := by decide +kernel
theorem dX5_firstSizeOf_26 : decode cX5_firstSizeOf 26 = .ok (.ireturn, 1) := by decide +kernel
theorem dX5_layPath_0 : decode cX5_layPath 0 = .ok (.iconst 0, 1) := by decide +kernel
theorem dX5_layPath_1 : decode cX5_layPath 1 = .ok (.istore 4, 2) := by decide +kernel
theorem dX5_layPath_3 : decode cX5_layPath 3 = .ok (.iload_n 3, 1) := by decide +kernel
theorem dX5_layPath_4 : decode cX5_layPath 4 = .ok (.istore 5, 2) := by decide +kernel
theorem dX5_layPath_6 : decode cX5_layPath 6 = .ok (.iconst 0, 1) := by decide +kernel
theorem dX5_layPath_7 : decode cX5_layPath 7 = .ok (.istore 6, 2) := by decide +kernel
theorem dX5_layPath_9 : decode cX5_layPath 9 = .ok (.iload 6, 2) := by decide +kernel
theorem dX5_layPath_11 : decode cX5_layPath 11 = .ok (.bipush 13, 2) := by decide +kernel
theorem dX5_layPath_13 : decode cX5_layPath 13 = .ok (.if_icmp .ge 121, 3) := by decide +kernel
theorem dX5_layPath_16 : decode cX5_layPath 16 = .ok (.iload 5, 2) := by decide +kernel
theorem dX5_layPath_18 : decode cX5_layPath 18 = .ok (.iconst 1, 1) := by decide +kernel
theorem dX5_layPath_19 : decode cX5_layPath 19 = .ok (.if_icmp .le 115, 3) := by decide +kernel
theorem dX5_layPath_22 : decode cX5_layPath 22 = .ok (.iload 4, 2) := by decide +kernel
theorem dX5_layPath_24 : decode cX5_layPath 24 = .ok (.iload_n 2, 1) := by decide +kernel
theorem dX5_layPath_25 : decode cX5_layPath 25 = .ok (.if_icmp .ne 7, 3) := by decide +kernel
theorem dX5_layPath_28 : decode cX5_layPath 28 = .ok (.aload_n 1, 1) := by decide +kernel
theorem dX5_layPath_29 : decode cX5_layPath 29 = .ok (.invokevirtual 65, 3) := by decide +kernel
theorem dX5_layPath_32 : decode cX5_layPath 32 = .ok (.aload_n 0, 1) := by decide +kernel
theorem dX5_layPath_33 : decode cX5_layPath 33 = .ok (.getfield 23, 3) := by decide +kernel
theorem dX5_layPath_36 : decode cX5_layPath 36 = .ok (.iload 4, 2) := by decide +kernel
theorem dX5_layPath_38 : decode cX5_layPath 38 = .ok (.iload 5, 2) := by decide +kernel
theorem dX5_layPath_40 : decode cX5_layPath 40 = .ok (.invokestatic 56, 3) := by decide +kernel
theorem dX5_layPath_43 : decode cX5_layPath 43 = .ok (.iaload, 1) := by decide +kernel
theorem dX5_layPath_44 : decode cX5_layPath 44 = .ok (.istore 7, 2) := by decide +kernel
theorem dX5_layPath_46 : decode cX5_layPath 46 = .ok (.iconst 1, 1) := by decide +kernel
theorem dX5_layPath_47 : decode cX5_layPath 47 = .ok (.istore 8, 2) := by decide +kernel
theorem dX5_layPath_49 : decode cX5_layPath 49 = .ok (.aload_n 0, 1) := by decide +kernel
theorem dX5_layPath_50 : decode cX5_layPath 50 = .ok (.iload 7, 2) := by decide +kernel
theorem dX5_layPath_52 : decode cX5_layPath 52 = .ok (.iload 4, 2) := by decide +kernel
theorem dX5_layPath_54 : decode cX5_layPath 54 = .ok (.iload 5, 2) := by decide +kernel
theorem dX5_layPath_56 : decode cX5_layPath 56 = .ok (.invokevirtual 68, 3) := by decide +kernel
theorem dX5_layPath_59 : decode cX5_layPath 59 = .ok (.istore 9, 2) := by decide +kernel
theorem dX5_layPath_61 : decode cX5_layPath 61 = .ok (.iload 7, 2) := by decide +kernel
theorem dX5_layPath_63 : decode cX5_layPath 63 = .ok (.iconst 1, 1) := by decide +kernel
theorem dX5_layPath_64 : decode cX5_layPath 64 = .ok (.isub, 1) := by decide +kernel
theorem dX5_layPath_65 : decode cX5_layPath 65 = .ok (.istore 10, 2) := by decide +kernel
theorem dX5_layPath_67 : decode cX5_layPath 67 = .ok (.iload 10, 2) := by decide +kernel
theorem dX5_layPath_69 : decode cX5_layPath 69 = .ok (.iconst 1, 1) := by decide +kernel
theorem dX5_layPath_70 : decode cX5_layPath 70 = .ok (.if_icmp .lt 47, 3) := by decide +kernel
theorem dX5_layPath_73 : decode cX5_layPath 73 = .ok (.iload_n 2, 1) := by decide +kernel
theorem dX5_layPath_74 : decode cX5_layPath 74 = .ok (.iload 4, 2) := by decide +kernel
theorem dX5_layPath_76 : decode cX5_layPath 76 = .ok (.iload 9, 2) := by decide +kernel
theorem dX5_layPath_78 : decode cX5_layPath 78 = .ok (.iadd, 1) := by decide +kernel
theorem dX5_layPath_79 : decode cX5_layPath 79 = .ok (.if_icmp .lt 38, 3) := by decide +kernel
theorem dX5_layPath_82 : decode cX5_layPath 82 = .ok (.iload 4, 2) := by decide +kernel
theorem dX5_layPath_84 : decode cX5_layPath 84 = .ok (.iload 9, 2) := by decide +kernel
theorem dX5_layPath_86 : decode cX5_layPath 86 = .ok (.iadd, 1) := by decide +kernel
theorem dX5_layPath_87 : decode cX5_layPath 87 = .ok (.istore 4, 2) := by decide +kernel
theorem dX5_layPath_89 : decode cX5_layPath 89 = .ok (.iload 5, 2) := by decide +kernel
theorem dX5_layPath_91 : decode cX5_layPath 91 = .ok (.iload 9, 2) := by decide +kernel
theorem dX5_layPath_93 : decode cX5_layPath 93 = .ok (.isub, 1) := by decide +kernel
theorem dX5_layPath_94 : decode cX5_layPath 94 = .ok (.istore 5, 2) := by decide +kernel
theorem dX5_layPath_96 : decode cX5_layPath 96 = .ok (.iinc 8 1, 3) := by decide +kernel
theorem dX5_layPath_99 : decode cX5_layPath 99 = .ok (.aload_n 0, 1) := by decide +kernel
theorem dX5_layPath_100 : decode cX5_layPath 100 = .ok (.iload 10, 2) := by decide +kernel
theorem dX5_layPath_102 : decode cX5_layPath 102 = .ok (.iload 4, 2) := by decide +kernel
theorem dX5_layPath_104 : decode cX5_layPath 104 = .ok (.iload 5, 2) := by decide +kernel
theorem dX5_layPath_106 : decode cX5_layPath 106 = .ok (.invokevirtual 68, 3) := by decide +kernel
theorem dX5_layPath_109 : decode cX5_layPath 109 = .ok (.istore 9, 2) := by decide +kernel
theorem dX5_layPath_111 : decode cX5_layPath 111 = .ok (.iinc 10 (-1), 3) := by decide +kernel
theorem dX5_layPath_114 : decode cX5_layPath 114 = .ok (.goto (-47), 3) := by decide +kernel
theorem dX5_layPath_117 : decode cX5_layPath 117 = .ok (.iload 9, 2) := by decide +kernel
theorem dX5_layPath_119 : decode cX5_layPath 119 = .ok (.istore 5, 2) := by decide +kernel
theorem dX5_layPath_121 : decode cX5_layPath 121 = .ok (.aload_n 1, 1) := by decide +kernel
theorem dX5_layPath_122 : decode cX5_layPath 122 = .ok (.iload_n 2, 1) := by decide +kernel
theorem dX5_layPath_123 : decode cX5_layPath 123 = .ok (.iload 8, 2) := by decide +kernel
theorem dX5_layPath_125 : decode cX5_layPath 125 = .ok (.invokevirtual 72, 3) := by decide +kernel
theorem dX5_layPath_128 : decode cX5_layPath 128 = .ok (.iinc 6 1, 3) := by decide +kernel
theorem dX5_layPath_131 : decode cX5_layPath 131 = .ok (.goto (-122), 3) := by decide +kernel
theorem dX5_layPath_134 : decode cX5_layPath 134 = .ok (.return_, 1) := by decide +kernel
theorem dX6_init_0 : decode cX6_init 0 = .ok (.aload_n 0, 1) := by decide +kernel
theorem dX6_init_1 : decode cX6_init 1 = .ok (.invokespecial 3, 3) := by decide +kernel
theorem dX6_init_4 : decode cX6_init 4 = .ok (.aload_n 0, 1) := by decide +kernel
theorem dX6_init_5 : decode cX6_init 5 = .ok (.bipush 11, 2) := by decide +kernel
theorem dX6_init_7 : decode cX6_init 7 = .ok (.newarray .int, 2) := by decide +kernel
theorem dX6_init_9 : decode cX6_init 9 = .ok (.putfield 9, 3) := by decide +kernel
theorem dX6_init_12 : decode cX6_init 12 = .ok (.aload_n 0, 1) := by decide +kernel
theorem dX6_init_13 : decode cX6_init 13 = .ok (.bipush 11, 2) := by decide +kernel
theorem dX6_init_15 : decode cX6_init 15 = .ok (.newarray .int, 2) := by decide +kernel
theorem dX6_init_17 : decode cX6_init 17 = .ok (.putfield 15, 3) := by decide +kernel
theorem dX6_init_20 : decode cX6_init 20 = .ok (.aload_n 0, 1) := by decide +kernel
theorem dX6_init_21 : decode cX6_init 21 = .ok (.bipush 11, 2) := by decide +kernel
theorem dX6_init_23 : decode cX6_init 23 = .ok (.newarray .int, 2) := by decide +kernel
theorem dX6_init_25 : decode cX6_init 25 = .ok (.putfield 18, 3) := by decide +kernel
theorem dX6_init_28 : decode cX6_init 28 = .ok (.aload_n 0, 1) := by decide +kernel
theorem dX6_init_29 : decode cX6_init 29 = .ok (.bipush 11, 2) := by decide +kernel
theorem dX6_init_31 : decode cX6_init 31 = .ok (.newarray .int, 2) := by decide +kernel
theorem dX6_init_33 : decode cX6_init 33 = .ok (.putfield 21, 3) := by decide +kernel
theorem dX6_init_36 : decode cX6_init 36 = .ok (.aload_n 0, 1) := by decide +kernel
theorem dX6_init_37 : decode cX6_init 37 = .ok (.new 24, 3) := by decide +kernel
theorem dX6_init_40 : decode cX6_init 40 = .ok (.dup, 1) := by decide +kernel
theorem dX6_init_41 : decode cX6_init 41 = .ok (.bipush 10, 2) := by decide +kernel
theorem dX6_init_43 : decode cX6_init 43 = .ok (.invokespecial 26, 3) := by decide +kernel
theorem dX6_init_46 : decode cX6_init 46 = .ok (.putfield 29, 3) := by decide +kernel
theorem dX6_init_49 : decode cX6_init 49 = .ok (.return_, 1) := by decide +kernel
theorem dX6_study_0 : decode cX6_study 0 = .ok (.aload_n 2, 1) := by decide +kernel
theorem dX6_study_1 : decode cX6_study 1 = .ok (.invokevirtual 33, 3) := by decide +kernel
theorem dX6_study_4 : decode cX6_study 4 = .ok (.bipush 10, 2) := by decide +kernel
theorem dX6_study_6 : decode cX6_study 6 = .ok (.invokestatic 37, 3) := by decide +kernel
theorem dX6_study_9 : decode cX6_study 9 = .ok (.istore_n 3, 1) := by decide +kernel
theorem dX6_study_10 : decode cX6_study 10 = .ok (.aload_n 0, 1) := by decide +kernel
theorem dX6_study_11 : decode cX6_study 11 = .ok (.getfield 9, 3) := by decide +kernel
theorem dX6_study_14 : decode cX6_study 14 = .ok (.iload_n 3, 1) := by decide +kernel
theorem dX6_study_15 : decode cX6_study 15 = .ok (.iconst 1, 1) := by decide +kernel
theorem dX6_study_16 : decode cX6_study 16 = .ok (.iastore, 1) := by decide +kernel
theorem dX6_study_17 : decode cX6_study 17 = .ok (.aload_n 0, 1) := by decide +kernel
theorem dX6_study_18 : decode cX6_study 18 = .ok (.getfield 15, 3) := by decide +kernel
theorem dX6_study_21 : decode cX6_study 21 = .ok (.iload_n 3, 1) := by decide +kernel
theorem dX6_study_22 : decode cX6_study 22 = .ok (.iconst 0, 1) := by decide +kernel
theorem dX6_study_23 : decode cX6_study 23 = .ok (.iastore, 1) := by decide +kernel
theorem dX6_study_24 : decode cX6_study 24 = .ok (.aload_n 0, 1) := by decide +kernel
theorem dX6_study_25 : decode cX6_study 25 = .ok (.getfield 18, 3) := by decide +kernel
theorem dX6_study_28 : decode cX6_study 28 = .ok (.iload_n 3, 1) := by decide +kernel
theorem dX6_study_29 : decode cX6_study 29 = .ok (.iconst 1, 1) := by decide +kernel
theorem dX6_study_30 : decode cX6_study 30 = .ok (.iastore, 1) := by decide +kernel
theorem dX6_study_31 : decode cX6_study 31 = .ok (.aload_n 0, 1) := by decide +kernel
theorem dX6_study_32 : decode cX6_study 32 = .ok (.getfield 21, 3) := by decide +kernel
theorem dX6_study_35 : decode cX6_study 35 = .ok (.iload_n 3, 1) := by decide +kernel
theorem dX6_study_36 : decode cX6_study 36 = .ok (.iconst 0, 1) := by decide +kernel
theorem dX6_study_37 : decode cX6_study 37 = .ok (.iastore, 1) := by decide +kernel
theorem dX6_study_38 : decode cX6_study 38 = .ok (.iload_n 3, 1) := by decide +kernel
theorem dX6_study_39 : decode cX6_study 39 = .ok (.iconst 1, 1) := by decide +kernel
theorem dX6_study_40 : decode cX6_study 40 = .ok (.isub, 1) := by decide +kernel
theorem dX6_study_41 : decode cX6_study 41 = .ok (.istore 4, 2) := by decide +kernel
theorem dX6_study_43 : decode cX6_study 43 = .ok (.iload 4, 2) := by decide +kernel
theorem dX6_study_45 : decode cX6_study 45 = .ok (.ifCond .lt 60, 3) := by decide +kernel
theorem dX6_study_48 : decode cX6_study 48 = .ok (.aload_n 0, 1) := by decide +kernel
theorem dX6_study_49 : decode cX6_study 49 = .ok (.iload 4, 2) := by decide +kernel
theorem dX6_study_51 : decode cX6_study 51 = .ok (.invokevirtual 43, 3) := by decide +kernel
theorem dX6_study_54 : decode cX6_study 54 = .ok (.iconst 0, 1) := by decide +kernel
theorem dX6_study_55 : decode cX6_study 55 = .ok (.istore 5, 2) := by decide +kernel
theorem dX6_study_57 : decode cX6_study 57 = .ok (.iload 5, 2) := by decide +kernel
theorem dX6_study_59 : decode cX6_study 59 = .ok (.aload_n 1, 1) := by decide +kernel
theorem dX6_study_60 : decode cX6_study 60 = .ok (.invokevirtual 46, 3) := by decide +kernel
theorem dX6_study_63 : decode cX6_study 63 = .ok (.if_icmp .ge 36, 3) := by decide +kernel
theorem dX6_study_66 : decode cX6_study 66 = .ok (.aload_n 1, 1) := by decide +kernel
theorem dX6_study_67 : decode cX6_study 67 = .ok (.iload 5, 2) := by decide +kernel
theorem dX6_study_69 : decode cX6_study 69 = .ok (.aload_n 2, 1) := by decide +kernel
theorem dX6_study_70 : decode cX6_study 70 = .ok (.iload 4, 2) := by decide +kernel
theorem dX6_study_72 : decode cX6_study 72 = .ok (.invokevirtual 49, 3) := by decide +kernel
theorem dX6_study_75 : decode cX6_study 75 = .ok (.ifCond .eq 18, 3) := by decide +kernel
theorem dX6_study_78 : decode cX6_study 78 = .ok (.aload_n 0, 1) := by decide +kernel
theorem dX6_study_79 : decode cX6_study 79 = .ok (.iload 4, 2) := by decide +kernel
theorem dX6_study_81 : decode cX6_study 81 = .ok (.iload 4, 2) := by decide +kernel
theorem dX6_study_83 : decode cX6_study 83 = .ok (.aload_n 1, 1) := by decide +kernel
theorem dX6_study_84 : decode cX6_study 84 = .ok (.iload 5, 2) := by decide +kernel
theorem dX6_study_86 : decode cX6_study 86 = .ok (.invokevirtual 53, 3) := by decide +kernel
theorem dX6_study_89 : decode cX6_study 89 = .ok (.iadd, 1) := by decide +kernel
theorem dX6_study_90 : decode cX6_study 90 = .ok (.invokevirtual 57, 3) := by decide +kernel
theorem dX6_study_93 : decode cX6_study 93 = .ok (.iinc 5 1, 3) := by decide +kernel
theorem dX6_study_96 : decode cX6_study 96 = .ok (.goto (-39), 3) := by decide +kernel
theorem dX6_study_99 : decode cX6_study 99 = .ok (.iinc 4 (-1), 3) := by decide +kernel
theorem dX6_study_102 : decode cX6_study 102 = .ok (.goto (-59), 3) := by decide +kernel
theorem dX6_study_105 : decode cX6_study 105 = .ok (.aload_n 0, 1) := by decide +kernel
theorem dX6_study_106 : decode cX6_study 106 = .ok (.aload_n 1, 1) := by decide +kernel
theorem dX6_study_107 : decode cX6_study 107 = .ok (.aload_n 2, 1) := by decide +kernel
theorem dX6_study_108 : decode cX6_study 108 = .ok (.invokevirtual 61, 3) := by decide +kernel
theorem dX6_study_111 : decode cX6_study 111 = .ok (.return_, 1) := by decide +kernel
theorem dX6_studyDigit_0 : decode cX6_studyDigit 0 = .ok (.aload_n 0, 1) := by decide +kernel
theorem dX6_studyDigit_1 : decode cX6_studyDigit 1 = .ok (.getfield 9, 3) := by decide +kernel
theorem dX6_studyDigit_4 : decode cX6_studyDigit 4 = .ok (.iload_n 1, 1) := by decide +kernel
theorem dX6_studyDigit_5 : decode cX6_studyDigit 5 = .ok (.aload_n 0, 1) := by decide +kernel
theorem dX6_studyDigit_6 : decode cX6_studyDigit 6 = .ok (.getfield 9, 3) := by decide +kernel
theorem dX6_studyDigit_9 : decode cX6_studyDigit 9 = .ok (.iload_n 1, 1) := by decide +kernel
theorem dX6_studyDigit_10 : decode cX6_studyDigit 10 = .ok (.iconst 1, 1) := by decide +kernel
theorem dX6_studyDigit_11 : decode cX6_studyDigit 11 = .ok (.iadd, 1) := by decide +kernel
theorem dX6_studyDigit_12 : decode cX6_studyDigit 12 = .ok (.iaload, 1) := by decide +kernel
theorem dX6_studyDigit_13 : decode cX6_studyDigit 13 = .ok (.iastore, 1) := by decide +kernel
theorem dX6_studyDigit_14 : decode cX6_studyDigit 14 = .ok (.aload_n 0, 1) := by decide +kernel
theorem dX6_studyDigit_15 : decode cX6_studyDigit 15 = .ok (.getfield 15, 3) := by decide +kernel
theorem dX6_studyDigit_18 : decode cX6_studyDigit 18 = .ok (.iload_n 1, 1) := by decide +kernel
theorem dX6_studyDigit_19 : decode cX6_studyDigit 19 = .ok (.aload_n 0, 1) := by decide +kernel
theorem dX6_studyDigit_20 : decode cX6_studyDigit 20 = .ok (.getfield 15, 3) := by decide +kernel
theorem dX6_studyDigit_23 : decode cX6_studyDigit 23 = .ok (.iload_n 1, 1) := by decide +kernel
theorem dX6_studyDigit_24 : decode cX6_studyDigit 24 = .ok (.iconst 1, 1) := by decide +kernel
theorem dX6_studyDigit_25 : decode cX6_studyDigit 25 = .ok (.iadd, 1) := by decide +kernel
theorem dX6_studyDigit_26 : decode cX6_studyDigit 26 = .ok (.iaload, 1) := by decide +kernel
theorem dX6_studyDigit_27 : decode cX6_studyDigit 27 = .ok (.iconst 1, 1) := by decide +kernel
theorem dX6_studyDigit_28 : decode cX6_studyDigit 28 = .ok (.iadd, 1) := by decide +kernel
theorem dX6_studyDigit_29 : decode cX6_studyDigit 29 = .ok (.iastore, 1) := by decide +kernel
theorem dX6_studyDigit_30 : decode cX6_studyDigit 30 = .ok (.aload_n 0, 1) := by decide +kernel
theorem dX6_studyDigit_31 : decode cX6_studyDigit 31 = .ok (.getfield 18, 3) := by decide +kernel
theorem dX6_studyDigit_34 : decode cX6_studyDigit 34 = .ok (.iload_n 1, 1) := by decide +kernel
theorem dX6_studyDigit_35 : decode cX6_studyDigit 35 = .ok (.aload_n 0, 1) := by decide +kernel
theorem dX6_studyDigit_36 : decode cX6_studyDigit 36 = .ok (.getfield 18, 3) := by decide +kernel
theorem dX6_studyDigit_39 : decode cX6_studyDigit 39 = .ok (.iload_n 1, 1) := by decide +kernel
theorem dX6_studyDigit_40 : decode cX6_studyDigit 40 = .ok (.iconst 1, 1) := by decide +kernel
theorem dX6_studyDigit_41 : decode cX6_studyDigit 41 = .ok (.iadd, 1) := by decide +kernel
theorem dX6_studyDigit_42 : decode cX6_studyDigit 42 = .ok (.iaload, 1) := by decide +kernel
theorem dX6_studyDigit_43 : decode cX6_studyDigit 43 = .ok (.iastore, 1) := by decide +kernel
theorem dX6_studyDigit_44 : decode cX6_studyDigit 44 = .ok (.aload_n 0, 1) := by decide +kernel
theorem dX6_studyDigit_45 : decode cX6_studyDigit 45 = .ok (.getfield 21, 3) := by decide +kernel
theorem dX6_studyDigit_48 : decode cX6_studyDigit 48 = .ok (.iload_n 1, 1) := by decide +kernel
theorem dX6_studyDigit_49 : decode cX6_studyDigit 49 = .ok (.aload_n 0, 1) := by decide +kernel
theorem dX6_studyDigit_50 : decode cX6_studyDigit 50 = .ok (.getfield 21, 3) := by decide +kernel
theorem dX6_studyDigit_53 : decode cX6_studyDigit 53 = .ok (.iload_n 1, 1) := by decide +kernel
theorem dX6_studyDigit_54 : decode cX6_studyDigit 54 = .ok (.iconst 1, 1) := by decide +kernel
theorem dX6_studyDigit_55 : decode cX6_studyDigit 55 = .ok (.iadd, 1) := by decide +kernel
theorem dX6_studyDigit_56 : decode cX6_studyDigit 56 = .ok (.iaload, 1) := by decide +kernel
theorem dX6_studyDigit_57 : decode cX6_studyDigit 57 = .ok (.iconst 1, 1) := by decide +kernel
theorem dX6_studyDigit_58 : decode cX6_studyDigit 58 = .ok (.iadd, 1) := by decide +kernel
theorem dX6_studyDigit_59 : decode cX6_studyDigit 59 = .ok (.iastore, 1) := by decide +kernel
theorem dX6_studyDigit_60 : decode cX6_studyDigit 60 = .ok (.return_, 1) := by decide +kernel
theorem dX6_studyName_0 : decode cX6_studyName 0 = .ok (.iload_n 1, 1) := by decide +kernel
theorem dX6_studyName_1 : decode cX6_studyName 1 = .ok (.iload_n 2, 1) := by decide +kernel
theorem dX6_studyName_2 : decode cX6_studyName 2 = .ok (.invokestatic 65, 3) := by decide +kernel
theorem dX6_studyName_5 : decode cX6_studyName 5 = .ok (.ifCond .ne 4, 3) := by decide +kernel
theorem dX6_studyName_8 : decode cX6_studyName 8 = .ok (.return_, 1) := by decide +kernel
theorem dX6_studyName_9 : decode cX6_studyName 9 = .ok (.aload_n 0, 1) := by decide +kernel
theorem dX6_studyName_10 : decode cX6_studyName 10 = .ok (.getfield 9, 3) := by decide +kernel
theorem dX6_studyName_13 : decode cX6_studyName 13 = .ok (.iload_n 1, 1) := by decide +kernel
theorem dX6_studyName_14 : decode cX6_studyName 14 = .ok (.aload_n 0, 1) := by decide +kernel
theorem dX6_studyName_15 : decode cX6_studyName 15 = .ok (.getfield 9, 3) := by decide +kernel
theorem dX6_studyName_18 : decode cX6_studyName 18 = .ok (.iload_n 1, 1) := by decide +kernel
theorem dX6_studyName_19 : decode cX6_studyName 19 = .ok (.iaload, 1) := by decide +kernel
theorem dX6_studyName_20 : decode cX6_studyName 20 = .ok (.aload_n 0, 1) := by decide +kernel
theorem dX6_studyName_21 : decode cX6_studyName 21 = .ok (.getfield 9, 3) := by decide +kernel
theorem dX6_studyName_24 : decode cX6_studyName 24 = .ok (.iload_n 2, 1) := by decide +kernel
theorem dX6_studyName_25 : decode cX6_studyName 25 = .ok (.iaload, 1) := by decide +kernel
theorem dX6_studyName_26 : decode cX6_studyName 26 = .ok (.iadd, 1) := by decide +kernel
theorem dX6_studyName_27 : decode cX6_studyName 27 = .ok (.ldc 69, 2) := by decide +kernel
theorem dX6_studyName_29 : decode cX6_studyName 29 = .ok (.irem, 1) := by decide +kernel
theorem dX6_studyName_30 : decode cX6_studyName 30 = .ok (.iastore, 1) := by decide +kernel
theorem dX6_studyName_31 : decode cX6_studyName 31 = .ok (.aload_n 0, 1) := by decide +kernel
theorem dX6_studyName_32 : decode cX6_studyName 32 = .ok (.getfield 15, 3) := by decide +kernel
theorem dX6_studyName_35 : decode cX6_studyName 35 = .ok (.iload_n 2, 1) := by decide +kernel
theorem dX6_studyName_36 : decode cX6_studyName 36 = .ok (.iaload, 1) := by decide +kernel
theorem dX6_studyName_37 : decode cX6_studyName 37 = .ok (.aload_n 0, 1) := by decide +kernel
theorem dX6_studyName_38 : decode cX6_studyName 38 = .ok (.getfield 15, 3) := by decide +kernel
theorem dX6_studyName_41 : decode cX6_studyName 41 = .ok (.iload_n 1, 1) := by decide +kernel
theorem dX6_studyName_42 : decode cX6_studyName 42 = .ok (.iaload, 1) := by decide +kernel
theorem dX6_studyName_43 : decode cX6_studyName 43 = .ok (.if_icmp .ge 44, 3) := by decide +kernel
theorem dX6_studyName_46 : decode cX6_studyName 46 = .ok (.aload_n 0, 1) := by decide +kernel
theorem dX6_studyName_47 : decode cX6_studyName 47 = .ok (.getfield 15, 3) := by decide +kernel
theorem dX6_studyName_50 : decode cX6_studyName 50 = .ok (.iload_n 1, 1) := by decide +kernel
theorem dX6_studyName_51 : decode cX6_studyName 51 = .ok (.aload_n 0, 1) := by decide +kernel
