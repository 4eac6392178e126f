theorem dX10_isPlace_15 : decode cX10_isPlace 15 = .ok (.ireturn, 1) := by decide +kernel
theorem dX10_isDay_0 : decode cX10_isDay 0 = .ok (.iload_n 0, 1) := by decide +kernel
theorem dX10_isDay_1 : decode cX10_isDay 1 = .ok (.ifCond .lt 14, 3) := by decide +kernel
theorem dX10_isDay_4 : decode cX10_isDay 4 = .ok (.iload_n 0, 1) := by decide +kernel
theorem dX10_isDay_5 : decode cX10_isDay 5 = .ok (.sipush 10000, 3) := by decide +kernel
theorem dX10_isDay_8 : decode cX10_isDay 8 = .ok (.if_icmp .ge 7, 3) := by decide +kernel
theorem dX10_isDay_11 : decode cX10_isDay 11 = .ok (.iconst 1, 1) := by decide +kernel
theorem dX10_isDay_12 : decode cX10_isDay 12 = .ok (.goto 4, 3) := by decide +kernel
theorem dX10_isDay_15 : decode cX10_isDay 15 = .ok (.iconst 0, 1) := by decide +kernel
theorem dX10_isDay_16 : decode cX10_isDay 16 = .ok (.ireturn, 1) := by decide +kernel
theorem dX10_isMeasure_0 : decode cX10_isMeasure 0 = .ok (.iload_n 0, 1) := by decide +kernel
theorem dX10_isMeasure_1 : decode cX10_isMeasure 1 = .ok (.ifCond .lt 13, 3) := by decide +kernel
theorem dX10_isMeasure_4 : decode cX10_isMeasure 4 = .ok (.iload_n 0, 1) := by decide +kernel
theorem dX10_isMeasure_5 : decode cX10_isMeasure 5 = .ok (.bipush 10, 2) := by decide +kernel
theorem dX10_isMeasure_7 : decode cX10_isMeasure 7 = .ok (.if_icmp .ge 7, 3) := by decide +kernel
theorem dX10_isMeasure_10 : decode cX10_isMeasure 10 = .ok (.iconst 1, 1) := by decide +kernel
theorem dX10_isMeasure_11 : decode cX10_isMeasure 11 = .ok (.goto 4, 3) := by decide +kernel
theorem dX10_isMeasure_14 : decode cX10_isMeasure 14 = .ok (.iconst 0, 1) := by decide +kernel
theorem dX10_isMeasure_15 : decode cX10_isMeasure 15 = .ok (.ireturn, 1) := by decide +kernel
theorem dX10_isKind_0 : decode cX10_isKind 0 = .ok (.iload_n 0, 1) := by decide +kernel
theorem dX10_isKind_1 : decode cX10_isKind 1 = .ok (.ifCond .lt 12, 3) := by decide +kernel
theorem dX10_isKind_4 : decode cX10_isKind 4 = .ok (.iload_n 0, 1) := by decide +kernel
theorem dX10_isKind_5 : decode cX10_isKind 5 = .ok (.iconst 5, 1) := by decide +kernel
theorem dX10_isKind_6 : decode cX10_isKind 6 = .ok (.if_icmp .ge 7, 3) := by decide +kernel
theorem dX10_isKind_9 : decode cX10_isKind 9 = .ok (.iconst 1, 1) := by decide +kernel
theorem dX10_isKind_10 : decode cX10_isKind 10 = .ok (.goto 4, 3) := by decide +kernel
theorem dX10_isKind_13 : decode cX10_isKind 13 = .ok (.iconst 0, 1) := by decide +kernel
theorem dX10_isKind_14 : decode cX10_isKind 14 = .ok (.ireturn, 1) := by decide +kernel
theorem dX10_isPair_0 : decode cX10_isPair 0 = .ok (.iload_n 0, 1) := by decide +kernel
theorem dX10_isPair_1 : decode cX10_isPair 1 = .ok (.ifCond .lt 13, 3) := by decide +kernel
theorem dX10_isPair_4 : decode cX10_isPair 4 = .ok (.iload_n 0, 1) := by decide +kernel
theorem dX10_isPair_5 : decode cX10_isPair 5 = .ok (.bipush 100, 2) := by decide +kernel
theorem dX10_isPair_7 : decode cX10_isPair 7 = .ok (.if_icmp .ge 7, 3) := by decide +kernel
theorem dX10_isPair_10 : decode cX10_isPair 10 = .ok (.iconst 1, 1) := by decide +kernel
theorem dX10_isPair_11 : decode cX10_isPair 11 = .ok (.goto 4, 3) := by decide +kernel
theorem dX10_isPair_14 : decode cX10_isPair 14 = .ok (.iconst 0, 1) := by decide +kernel
theorem dX10_isPair_15 : decode cX10_isPair 15 = .ok (.ireturn, 1) := by decide +kernel
theorem dX10_isPlaceAndDay_0 : decode cX10_isPlaceAndDay 0 = .ok (.iload_n 0, 1) := by decide +kernel
theorem dX10_isPlaceAndDay_1 : decode cX10_isPlaceAndDay 1 = .ok (.ifCond .lt 14, 3) := by decide +kernel
theorem dX10_isPlaceAndDay_4 : decode cX10_isPlaceAndDay 4 = .ok (.iload_n 0, 1) := by decide +kernel
theorem dX10_isPlaceAndDay_5 : decode cX10_isPlaceAndDay 5 = .ok (.ldc_w 314, 3) := by decide +kernel
theorem dX10_isPlaceAndDay_8 : decode cX10_isPlaceAndDay 8 = .ok (.if_icmp .ge 7, 3) := by decide +kernel
theorem dX10_isPlaceAndDay_11 : decode cX10_isPlaceAndDay 11 = .ok (.iconst 1, 1) := by decide +kernel
theorem dX10_isPlaceAndDay_12 : decode cX10_isPlaceAndDay 12 = .ok (.goto 4, 3) := by decide +kernel
theorem dX10_isPlaceAndDay_15 : decode cX10_isPlaceAndDay 15 = .ok (.iconst 0, 1) := by decide +kernel
theorem dX10_isPlaceAndDay_16 : decode cX10_isPlaceAndDay 16 = .ok (.ireturn, 1) := by decide +kernel
theorem dX10_isTerm_0 : decode cX10_isTerm 0 = .ok (.iload_n 0, 1) := by decide +kernel
theorem dX10_isTerm_1 : decode cX10_isTerm 1 = .ok (.iconst 1, 1) := by decide +kernel
theorem dX10_isTerm_2 : decode cX10_isTerm 2 = .ok (.if_icmp .lt 14, 3) := by decide +kernel
theorem dX10_isTerm_5 : decode cX10_isTerm 5 = .ok (.iload_n 0, 1) := by decide +kernel
theorem dX10_isTerm_6 : decode cX10_isTerm 6 = .ok (.sipush 1000, 3) := by decide +kernel
theorem dX10_isTerm_9 : decode cX10_isTerm 9 = .ok (.if_icmp .gt 7, 3) := by decide +kernel
theorem dX10_isTerm_12 : decode cX10_isTerm 12 = .ok (.iconst 1, 1) := by decide +kernel
theorem dX10_isTerm_13 : decode cX10_isTerm 13 = .ok (.goto 4, 3) := by decide +kernel
theorem dX10_isTerm_16 : decode cX10_isTerm 16 = .ok (.iconst 0, 1) := by decide +kernel
theorem dX10_isTerm_17 : decode cX10_isTerm 17 = .ok (.ireturn, 1) := by decide +kernel
theorem dX10_isEither_0 : decode cX10_isEither 0 = .ok (.iload_n 0, 1) := by decide +kernel
theorem dX10_isEither_1 : decode cX10_isEither 1 = .ok (.ifCond .eq 8, 3) := by decide +kernel
theorem dX10_isEither_4 : decode cX10_isEither 4 = .ok (.iload_n 0, 1) := by decide +kernel
theorem dX10_isEither_5 : decode cX10_isEither 5 = .ok (.iconst 1, 1) := by decide +kernel
theorem dX10_isEither_6 : decode cX10_isEither 6 = .ok (.if_icmp .ne 7, 3) := by decide +kernel
theorem dX10_isEither_9 : decode cX10_isEither 9 = .ok (.iconst 1, 1) := by decide +kernel
theorem dX10_isEither_10 : decode cX10_isEither 10 = .ok (.goto 4, 3) := by decide +kernel
theorem dX10_isEither_13 : decode cX10_isEither 13 = .ok (.iconst 0, 1) := by decide +kernel
theorem dX10_isEither_14 : decode cX10_isEither 14 = .ok (.ireturn, 1) := by decide +kernel
theorem dX10_isAmount_0 : decode cX10_isAmount 0 = .ok (.iload_n 0, 1) := by decide +kernel
theorem dX10_isAmount_1 : decode cX10_isAmount 1 = .ok (.ldc_w 315, 3) := by decide +kernel
theorem dX10_isAmount_4 : decode cX10_isAmount 4 = .ok (.if_icmp .lt 14, 3) := by decide +kernel
theorem dX10_isAmount_7 : decode cX10_isAmount 7 = .ok (.iload_n 0, 1) := by decide +kernel
theorem dX10_isAmount_8 : decode cX10_isAmount 8 = .ok (.ldc_w 316, 3) := by decide +kernel
theorem dX10_isAmount_11 : decode cX10_isAmount 11 = .ok (.if_icmp .gt 7, 3) := by decide +kernel
theorem dX10_isAmount_14 : decode cX10_isAmount 14 = .ok (.iconst 1, 1) := by decide +kernel
theorem dX10_isAmount_15 : decode cX10_isAmount 15 = .ok (.goto 4, 3) := by decide +kernel
theorem dX10_isAmount_18 : decode cX10_isAmount 18 = .ok (.iconst 0, 1) := by decide +kernel
theorem dX10_isAmount_19 : decode cX10_isAmount 19 = .ok (.ireturn, 1) := by decide +kernel
theorem dX10_find_0 : decode cX10_find 0 = .ok (.iload_n 1, 1) := by decide +kernel
theorem dX10_find_1 : decode cX10_find 1 = .ok (.ifCond .lt 20, 3) := by decide +kernel
theorem dX10_find_4 : decode cX10_find 4 = .ok (.iload_n 1, 1) := by decide +kernel
theorem dX10_find_5 : decode cX10_find 5 = .ok (.aload_n 0, 1) := by decide +kernel
theorem dX10_find_6 : decode cX10_find 6 = .ok (.getfield 99, 3) := by decide +kernel
theorem dX10_find_9 : decode cX10_find 9 = .ok (.if_icmp .ge 12, 3) := by decide +kernel
theorem dX10_find_12 : decode cX10_find 12 = .ok (.aload_n 0, 1) := by decide +kernel
theorem dX10_find_13 : decode cX10_find 13 = .ok (.getfield 15, 3) := by decide +kernel
theorem dX10_find_16 : decode cX10_find 16 = .ok (.iload_n 1, 1) := by decide +kernel
theorem dX10_find_17 : decode cX10_find 17 = .ok (.aaload, 1) := by decide +kernel
theorem dX10_find_18 : decode cX10_find 18 = .ok (.goto 4, 3) := by decide +kernel
theorem dX10_find_21 : decode cX10_find 21 = .ok (.aconst_null, 1) := by decide +kernel
theorem dX10_find_22 : decode cX10_find 22 = .ok (.areturn, 1) := by decide +kernel
theorem dX10_findCustom_0 : decode cX10_findCustom 0 = .ok (.iload_n 1, 1) := by decide +kernel
theorem dX10_findCustom_1 : decode cX10_findCustom 1 = .ok (.ifCond .lt 17, 3) := by decide +kernel
theorem dX10_findCustom_4 : decode cX10_findCustom 4 = .ok (.iload_n 1, 1) := by decide +kernel
theorem dX10_findCustom_5 : decode cX10_findCustom 5 = .ok (.iconst 4, 1) := by decide +kernel
theorem dX10_findCustom_6 : decode cX10_findCustom 6 = .ok (.if_icmp .ge 12, 3) := by decide +kernel
theorem dX10_findCustom_9 : decode cX10_findCustom 9 = .ok (.aload_n 0, 1) := by decide +kernel
theorem dX10_findCustom_10 : decode cX10_findCustom 10 = .ok (.getfield 21, 3) := by decide +kernel
theorem dX10_findCustom_13 : decode cX10_findCustom 13 = .ok (.iload_n 1, 1) := by decide +kernel
theorem dX10_findCustom_14 : decode cX10_findCustom 14 = .ok (.aaload, 1) := by decide +kernel
theorem dX10_findCustom_15 : decode cX10_findCustom 15 = .ok (.goto 4, 3) := by decide +kernel
theorem dX10_findCustom_18 : decode cX10_findCustom 18 = .ok (.aconst_null, 1) := by decide +kernel
theorem dX10_findCustom_19 : decode cX10_findCustom 19 = .ok (.areturn, 1) := by decide +kernel
theorem dX10_findLine_0 : decode cX10_findLine 0 = .ok (.iload_n 1, 1) := by decide +kernel
theorem dX10_findLine_1 : decode cX10_findLine 1 = .ok (.ifCond .lt 20, 3) := by decide +kernel
theorem dX10_findLine_4 : decode cX10_findLine 4 = .ok (.iload_n 1, 1) := by decide +kernel
theorem dX10_findLine_5 : decode cX10_findLine 5 = .ok (.aload_n 0, 1) := by decide +kernel
theorem dX10_findLine_6 : decode cX10_findLine 6 = .ok (.getfield 275, 3) := by decide +kernel
theorem dX10_findLine_9 : decode cX10_findLine 9 = .ok (.if_icmp .ge 12, 3) := by decide +kernel
theorem dX10_findLine_12 : decode cX10_findLine 12 = .ok (.aload_n 0, 1) := by decide +kernel
theorem dX10_findLine_13 : decode cX10_findLine 13 = .ok (.getfield 27, 3) := by decide +kernel
theorem dX10_findLine_16 : decode cX10_findLine 16 = .ok (.iload_n 1, 1) := by decide +kernel
theorem dX10_findLine_17 : decode cX10_findLine 17 = .ok (.aaload, 1) := by decide +kernel
theorem dX10_findLine_18 : decode cX10_findLine 18 = .ok (.goto 4, 3) := by decide +kernel
theorem dX10_findLine_21 : decode cX10_findLine 21 = .ok (.aconst_null, 1) := by decide +kernel
theorem dX10_findLine_22 : decode cX10_findLine 22 = .ok (.areturn, 1) := by decide +kernel
theorem dX10_isWithin_0 : decode cX10_isWithin 0 = .ok (.iload_n 1, 1) := by decide +kernel
theorem dX10_isWithin_1 : decode cX10_isWithin 1 = .ok (.istore_n 3, 1) := by decide +kernel
theorem dX10_isWithin_2 : decode cX10_isWithin 2 = .ok (.iconst 0, 1) := by decide +kernel
theorem dX10_isWithin_3 : decode cX10_isWithin 3 = .ok (.istore 4, 2) := by decide +kernel
theorem dX10_isWithin_5 : decode cX10_isWithin 5 = .ok (.iload 4, 2) := by decide +kernel
theorem dX10_isWithin_7 : decode cX10_isWithin 7 = .ok (.bipush 8, 2) := by decide +kernel
theorem dX10_isWithin_9 : decode cX10_isWithin 9 = .ok (.if_icmp .ge 21, 3) := by decide +kernel
theorem dX10_isWithin_12 : decode cX10_isWithin 12 = .ok (.iload_n 3, 1) := by decide +kernel
theorem dX10_isWithin_13 : decode cX10_isWithin 13 = .ok (.iload_n 2, 1) := by decide +kernel
theorem dX10_isWithin_14 : decode cX10_isWithin 14 = .ok (.if_icmp .le 16, 3) := by decide +kernel
theorem dX10_isWithin_17 : decode cX10_isWithin 17 = .ok (.aload_n 0, 1) := by decide +kernel
theorem dX10_isWithin_18 : decode cX10_isWithin 18 = .ok (.getfield 9, 3) := by decide +kernel
theorem dX10_isWithin_21 : decode cX10_isWithin 21 = .ok (.iload_n 3, 1) := by decide +kernel
theorem dX10_isWithin_22 : decode cX10_isWithin 22 = .ok (.iaload, 1) := by decide +kernel
theorem dX10_isWithin_23 : decode cX10_isWithin 23 = .ok (.istore_n 3, 1) := by decide +kernel
theorem dX10_isWithin_24 : decode cX10_isWithin 24 = .ok (.iinc 4 1, 3) := by decide +kernel
theorem dX10_isWithin_27 : decode cX10_isWithin 27 = .ok (.goto (-22), 3) := by decide +kernel
theorem dX10_isWithin_30 : decode cX10_isWithin 30 = .ok (.iload_n 3, 1) := by decide +kernel
theorem dX10_isWithin_31 : decode cX10_isWithin 31 = .ok (.iload_n 2, 1) := by decide +kernel
theorem dX10_isWithin_32 : decode cX10_isWithin 32 = .ok (.if_icmp .ne 7, 3) := by decide +kernel
theorem dX10_isWithin_35 : decode cX10_isWithin 35 = .ok (.iconst 1, 1) := by decide +kernel
theorem dX10_isWithin_36 : decode cX10_isWithin 36 = .ok (.goto 4, 3) := by decide +kernel
theorem dX10_isWithin_39 : decode cX10_isWithin 39 = .ok (.iconst 0, 1) := by decide +kernel
theorem dX10_isWithin_40 : decode cX10_isWithin 40 = .ok (.ireturn, 1) := by decide +kernel
theorem dX10_countsAt_0 : decode cX10_countsAt 0 = .ok (.aload_n 1, 1) := by decide +kernel
theorem dX10_countsAt_1 : decode cX10_countsAt 1 = .ok (.getfield 138, 3) := by decide +kernel
theorem dX10_countsAt_4 : decode cX10_countsAt 4 = .ok (.ifCond .ne 19, 3) := by decide +kernel
theorem dX10_countsAt_7 : decode cX10_countsAt 7 = .ok (.iload_n 3, 1) := by decide +kernel
theorem dX10_countsAt_8 : decode cX10_countsAt 8 = .ok (.aload_n 1, 1) := by decide +kernel
theorem dX10_countsAt_9 : decode cX10_countsAt 9 = .ok (.getfield 118, 3) := by decide +kernel
theorem dX10_countsAt_12 : decode cX10_countsAt 12 = .ok (.if_icmp .lt 11, 3) := by decide +kernel
theorem dX10_countsAt_15 : decode cX10_countsAt 15 = .ok (.iload_n 3, 1) := by decide +kernel
theorem dX10_countsAt_16 : decode cX10_countsAt 16 = .ok (.aload_n 1, 1) := by decide +kernel
theorem dX10_countsAt_17 : decode cX10_countsAt 17 = .ok (.getfield 121, 3) := by decide +kernel
theorem dX10_countsAt_20 : decode cX10_countsAt 20 = .ok (.if_icmp .le 5, 3) := by decide +kernel
theorem dX10_countsAt_23 : decode cX10_countsAt 23 = .ok (.iconst 0, 1) := by decide +kernel
theorem dX10_countsAt_24 : decode cX10_countsAt 24 = .ok (.ireturn, 1) := by decide +kernel
theorem dX10_countsAt_25 : decode cX10_countsAt 25 = .ok (.aload_n 1, 1) := by decide +kernel
theorem dX10_countsAt_26 : decode cX10_countsAt 26 = .ok (.getfield 142, 3) := by decide +kernel
theorem dX10_countsAt_29 : decode cX10_countsAt 29 = .ok (.iconst 3, 1) := by decide +kernel
theorem dX10_countsAt_30 : decode cX10_countsAt 30 = .ok (.if_icmp .ne 19, 3) := by decide +kernel
theorem dX10_countsAt_33 : decode cX10_countsAt 33 = .ok (.iload_n 2, 1) := by decide +kernel
theorem dX10_countsAt_34 : decode cX10_countsAt 34 = .ok (.aload_n 1, 1) := by decide +kernel
theorem dX10_countsAt_35 : decode cX10_countsAt 35 = .ok (.getfield 115, 3) := by decide +kernel
theorem dX10_countsAt_38 : decode cX10_countsAt 38 = .ok (.if_icmp .ne 7, 3) := by decide +kernel
theorem dX10_countsAt_41 : decode cX10_countsAt 41 = .ok (.iconst 1, 1) := by decide +kernel
theorem dX10_countsAt_42 : decode cX10_countsAt 42 = .ok (.goto 16, 3) := by decide +kernel
theorem dX10_countsAt_45 : decode cX10_countsAt 45 = .ok (.iconst 0, 1) := by decide +kernel
theorem dX10_countsAt_46 : decode cX10_countsAt 46 = .ok (.goto 12, 3) := by decide +kernel
theorem dX10_countsAt_49 : decode cX10_countsAt 49 = .ok (.aload_n 0, 1) := by decide +kernel
theorem dX10_countsAt_50 : decode cX10_countsAt 50 = .ok (.iload_n 2, 1) := by decide +kernel
theorem dX10_countsAt_51 : decode cX10_countsAt 51 = .ok (.aload_n 1, 1) := by decide +kernel
theorem dX10_countsAt_52 : decode cX10_countsAt 52 = .ok (.getfield 115, 3) := by decide +kernel
theorem dX10_countsAt_55 : decode cX10_countsAt 55 = .ok (.invokevirtual 86, 3) := by decide +kernel
theorem dX10_countsAt_58 : decode cX10_countsAt 58 = .ok (.ireturn, 1) := by decide +kernel
theorem dX10_gather_0 : decode cX10_gather 0 = .ok (.aload_n 0, 1) := by decide +kernel
theorem dX10_gather_1 : decode cX10_gather 1 = .ok (.getfield 34, 3) := by decide +kernel
theorem dX10_gather_4 : decode cX10_gather 4 = .ok (.iconst 0, 1) := by decide +kernel
theorem dX10_gather_5 : decode cX10_gather 5 = .ok (.putfield 317, 3) := by decide +kernel
theorem dX10_gather_8 : decode cX10_gather 8 = .ok (.iconst 0, 1) := by decide +kernel
theorem dX10_gather_9 : decode cX10_gather 9 = .ok (.istore_n 2, 1) := by decide +kernel
theorem dX10_gather_10 : decode cX10_gather 10 = .ok (.iload_n 2, 1) := by decide +kernel
theorem dX10_gather_11 : decode cX10_gather 11 = .ok (.aload_n 0, 1) := by decide +kernel
theorem dX10_gather_12 : decode cX10_gather 12 = .ok (.getfield 99, 3) := by decide +kernel
theorem dX10_gather_15 : decode cX10_gather 15 = .ok (.if_icmp .ge 46, 3) := by decide +kernel
theorem dX10_gather_18 : decode cX10_gather 18 = .ok (.aload_n 0, 1) := by decide +kernel
theorem dX10_gather_19 : decode cX10_gather 19 = .ok (.getfield 15, 3) := by decide +kernel
theorem dX10_gather_22 : decode cX10_gather 22 = .ok (.iload_n 2, 1) := by decide +kernel
theorem dX10_gather_23 : decode cX10_gather 23 = .ok (.aaload, 1) := by decide +kernel
theorem dX10_gather_24 : decode cX10_gather 24 = .ok (.astore_n 3, 1) := by decide +kernel
theorem dX10_gather_25 : decode cX10_gather 25 = .ok (.aload_n 3, 1) := by decide +kernel
theorem dX10_gather_26 : decode cX10_gather 26 = .ok (.ifnull 29, 3) := by decide +kernel
theorem dX10_gather_29 : decode cX10_gather 29 = .ok (.aload_n 0, 1) := by decide +kernel
theorem dX10_gather_30 : decode cX10_gather 30 = .ok (.aload_n 3, 1) := by decide +kernel
theorem dX10_gather_31 : decode cX10_gather 31 = .ok (.iload_n 1, 1) := by decide +kernel
theorem dX10_gather_32 : decode cX10_gather 32 = .ok (.sipush 10000, 3) := by decide +kernel
theorem dX10_gather_35 : decode cX10_gather 35 = .ok (.idiv, 1) := by decide +kernel
theorem dX10_gather_36 : decode cX10_gather 36 = .ok (.iload_n 1, 1) := by decide +kernel
theorem dX10_gather_37 : decode cX10_gather 37 = .ok (.sipush 10000, 3) := by decide +kernel
theorem dX10_gather_40 : decode cX10_gather 40 = .ok (.irem, 1) := by decide +kernel
theorem dX10_gather_41 : decode cX10_gather 41 = .ok (.invokevirtual 170, 3) := by decide +kernel
theorem dX10_gather_44 : decode cX10_gather 44 = .ok (.ifCond .eq 11, 3) := by decide +kernel
theorem dX10_gather_47 : decode cX10_gather 47 = .ok (.aload_n 0, 1) := by decide +kernel
theorem dX10_gather_48 : decode cX10_gather 48 = .ok (.getfield 34, 3) := by decide +kernel
theorem dX10_gather_51 : decode cX10_gather 51 = .ok (.aload_n 3, 1) := by decide +kernel
theorem dX10_gather_52 : decode cX10_gather 52 = .ok (.invokevirtual 320, 3) := by decide +kernel
theorem dX10_gather_55 : decode cX10_gather 55 = .ok (.iinc 2 1, 3) := by decide +kernel
theorem dX10_gather_58 : decode cX10_gather 58 = .ok (.goto (-48), 3) := by decide +kernel
theorem dX10_gather_61 : decode cX10_gather 61 = .ok (.return_, 1) := by decide +kernel
theorem dX10_endOf_0 : decode cX10_endOf 0 = .ok (.aload_n 0, 1) := by decide +kernel
theorem dX10_endOf_1 : decode cX10_endOf 1 = .ok (.getfield 324, 3) := by decide +kernel
theorem dX10_endOf_4 : decode cX10_endOf 4 = .ok (.ifCond .ne 10, 3) := by decide +kernel
theorem dX10_endOf_7 : decode cX10_endOf 7 = .ok (.aload_n 1, 1) := by decide +kernel
theorem dX10_endOf_8 : decode cX10_endOf 8 = .ok (.getfield 324, 3) := by decide +kernel
theorem dX10_endOf_11 : decode cX10_endOf 11 = .ok (.ifCond .eq 7, 3) := by decide +kernel
theorem dX10_endOf_14 : decode cX10_endOf 14 = .ok (.ldc2_w 220, 3) := by decide +kernel
theorem dX10_endOf_17 : decode cX10_endOf 17 = .ok (.lreturn, 1) := by decide +kernel
theorem dX10_endOf_18 : decode cX10_endOf 18 = .ok (.iload_n 2, 1) := by decide +kernel
theorem dX10_endOf_19 : decode cX10_endOf 19 = .ok (.ifCond .ne 7, 3) := by decide +kernel
theorem dX10_endOf_22 : decode cX10_endOf 22 = .ok (.aload_n 0, 1) := by decide +kernel
theorem dX10_endOf_23 : decode cX10_endOf 23 = .ok (.goto 4, 3) := by decide +kernel
theorem dX10_endOf_26 : decode cX10_endOf 26 = .ok (.aload_n 1, 1) := by decide +kernel
theorem dX10_endOf_27 : decode cX10_endOf 27 = .ok (.astore 4, 2) := by decide +kernel
theorem dX10_endOf_29 : decode cX10_endOf 29 = .ok (.iload_n 3, 1) := by decide +kernel
theorem dX10_endOf_30 : decode cX10_endOf 30 = .ok (.ifCond .ne 11, 3) := by decide +kernel
theorem dX10_endOf_33 : decode cX10_endOf 33 = .ok (.aload 4, 2) := by decide +kernel
theorem dX10_endOf_35 : decode cX10_endOf 35 = .ok (.getfield 325, 3) := by decide +kernel
theorem dX10_endOf_38 : decode cX10_endOf 38 = .ok (.goto 8, 3) := by decide +kernel
theorem dX10_endOf_41 : decode cX10_endOf 41 = .ok (.aload 4, 2) := by decide +kernel
theorem dX10_endOf_43 : decode cX10_endOf 43 = .ok (.getfield 328, 3) := by decide +kernel
theorem dX10_endOf_46 : decode cX10_endOf 46 = .ok (.lreturn, 1) := by decide +kernel
theorem dX10_findCure_0 : decode cX10_findCure 0 = .ok (.aload_n 0, 1) := by decide +kernel
theorem dX10_findCure_1 : decode cX10_findCure 1 = .ok (.iload_n 1, 1) := by decide +kernel
theorem dX10_findCure_2 : decode cX10_findCure 2 = .ok (.invokevirtual 177, 3) := by decide +kernel
theorem dX10_findCure_5 : decode cX10_findCure 5 = .ok (.aload_n 0, 1) := by decide +kernel
theorem dX10_findCure_6 : decode cX10_findCure 6 = .ok (.getfield 62, 3) := by decide +kernel
theorem dX10_findCure_9 : decode cX10_findCure 9 = .ok (.invokevirtual 210, 3) := by decide +kernel
theorem dX10_findCure_12 : decode cX10_findCure 12 = .ok (.aload_n 0, 1) := by decide +kernel
theorem dX10_findCure_13 : decode cX10_findCure 13 = .ok (.getfield 62, 3) := by decide +kernel
theorem dX10_findCure_16 : decode cX10_findCure 16 = .ok (.aload_n 0, 1) := by decide +kernel
theorem dX10_findCure_17 : decode cX10_findCure 17 = .ok (.getfield 34, 3) := by decide +kernel
theorem dX10_findCure_20 : decode cX10_findCure 20 = .ok (.invokevirtual 331, 3) := by decide +kernel
theorem dX10_findCure_23 : decode cX10_findCure 23 = .ok (.ifCond .ne 7, 3) := by decide +kernel
theorem dX10_findCure_26 : decode cX10_findCure 26 = .ok (.ldc2_w 220, 3) := by decide +kernel
theorem dX10_findCure_29 : decode cX10_findCure 29 = .ok (.lreturn, 1) := by decide +kernel
theorem dX10_findCure_30 : decode cX10_findCure 30 = .ok (.aload_n 0, 1) := by decide +kernel
theorem dX10_findCure_31 : decode cX10_findCure 31 = .ok (.getfield 34, 3) := by decide +kernel
theorem dX10_findCure_34 : decode cX10_findCure 34 = .ok (.aload_n 0, 1) := by decide +kernel
theorem dX10_findCure_35 : decode cX10_findCure 35 = .ok (.getfield 62, 3) := by decide +kernel
theorem dX10_findCure_38 : decode cX10_findCure 38 = .ok (.invokevirtual 213, 3) := by decide +kernel
theorem dX10_findCure_41 : decode cX10_findCure 41 = .ok (.aload_n 0, 1) := by decide +kernel
theorem dX10_findCure_42 : decode cX10_findCure 42 = .ok (.getfield 62, 3) := by decide +kernel
theorem dX10_findCure_45 : decode cX10_findCure 45 = .ok (.getfield 217, 3) := by decide +kernel
theorem dX10_findCure_48 : decode cX10_findCure 48 = .ok (.ifCond .eq 9, 3) := by decide +kernel
theorem dX10_findCure_51 : decode cX10_findCure 51 = .ok (.ldc2_w 220, 3) := by decide +kernel
theorem dX10_findCure_54 : decode cX10_findCure 54 = .ok (.goto 10, 3) := by decide +kernel
theorem dX10_findCure_57 : decode cX10_findCure 57 = .ok (.aload_n 0, 1) := by decide +kernel
theorem dX10_findCure_58 : decode cX10_findCure 58 = .ok (.getfield 62, 3) := by decide +kernel
theorem dX10_findCure_61 : decode cX10_findCure 61 = .ok (.invokevirtual 335, 3) := by decide +kernel
theorem dX10_findCure_64 : decode cX10_findCure 64 = .ok (.lreturn, 1) := by decide +kernel
theorem dX10_droppedOnes_0 : decode cX10_droppedOnes 0 = .ok (.iconst 0, 1) := by decide +kernel
theorem dX10_droppedOnes_1 : decode cX10_droppedOnes 1 = .ok (.istore_n 1, 1) := by decide +kernel
theorem dX10_droppedOnes_2 : decode cX10_droppedOnes 2 = .ok (.iconst 0, 1) := by decide +kernel
theorem dX10_droppedOnes_3 : decode cX10_droppedOnes 3 = .ok (.istore_n 2, 1) := by decide +kernel
theorem dX10_droppedOnes_4 : decode cX10_droppedOnes 4 = .ok (.iload_n 2, 1) := by decide +kernel
theorem dX10_droppedOnes_5 : decode cX10_droppedOnes 5 = .ok (.aload_n 0, 1) := by decide +kernel
theorem dX10_droppedOnes_6 : decode cX10_droppedOnes 6 = .ok (.getfield 99, 3) := by decide +kernel
theorem dX10_droppedOnes_9 : decode cX10_droppedOnes 9 = .ok (.if_icmp .ge 30, 3) := by decide +kernel
theorem dX10_droppedOnes_12 : decode cX10_droppedOnes 12 = .ok (.aload_n 0, 1) := by decide +kernel
theorem dX10_droppedOnes_13 : decode cX10_droppedOnes 13 = .ok (.getfield 15, 3) := by decide +kernel
theorem dX10_droppedOnes_16 : decode cX10_droppedOnes 16 = .ok (.iload_n 2, 1) := by decide +kernel
theorem dX10_droppedOnes_17 : decode cX10_droppedOnes 17 = .ok (.aaload, 1) := by decide +kernel
theorem dX10_droppedOnes_18 : decode cX10_droppedOnes 18 = .ok (.astore_n 3, 1) := by decide +kernel
theorem dX10_droppedOnes_19 : decode cX10_droppedOnes 19 = .ok (.aload_n 3, 1) := by decide +kernel
theorem dX10_droppedOnes_20 : decode cX10_droppedOnes 20 = .ok (.ifnull 13, 3) := by decide +kernel
theorem dX10_droppedOnes_23 : decode cX10_droppedOnes 23 = .ok (.aload_n 3, 1) := by decide +kernel
theorem dX10_droppedOnes_24 : decode cX10_droppedOnes 24 = .ok (.getfield 138, 3) := by decide +kernel
theorem dX10_droppedOnes_27 : decode cX10_droppedOnes 27 = .ok (.ifCond .eq 6, 3) := by decide +kernel
theorem dX10_droppedOnes_30 : decode cX10_droppedOnes 30 = .ok (.iinc 1 1, 3) := by decide +kernel
theorem dX10_droppedOnes_33 : decode cX10_droppedOnes 33 = .ok (.iinc 2 1, 3) := by decide +kernel
theorem dX10_droppedOnes_36 : decode cX10_droppedOnes 36 = .ok (.goto (-32), 3) := by decide +kernel
theorem dX10_droppedOnes_39 : decode cX10_droppedOnes 39 = .ok (.iload_n 1, 1) := by decide +kernel
theorem dX10_droppedOnes_40 : decode cX10_droppedOnes 40 = .ok (.ireturn, 1) := by decide +kernel
theorem dX10_customsThere_0 : decode cX10_customsThere 0 = .ok (.iconst 0, 1) := by decide +kernel
theorem dX10_customsThere_1 : decode cX10_customsThere 1 = .ok (.istore_n 1, 1) := by decide +kernel
theorem dX10_customsThere_2 : decode cX10_customsThere 2 = .ok (.iconst 0, 1) := by decide +kernel
theorem dX10_customsThere_3 : decode cX10_customsThere 3 = .ok (.istore_n 2, 1) := by decide +kernel
theorem dX10_customsThere_4 : decode cX10_customsThere 4 = .ok (.iload_n 2, 1) := by decide +kernel
theorem dX10_customsThere_5 : decode cX10_customsThere 5 = .ok (.iconst 4, 1) := by decide +kernel
theorem dX10_customsThere_6 : decode cX10_customsThere 6 = .ok (.if_icmp .ge 30, 3) := by decide +kernel
theorem dX10_customsThere_9 : decode cX10_customsThere 9 = .ok (.aload_n 0, 1) := by decide +kernel
theorem dX10_customsThere_10 : decode cX10_customsThere 10 = .ok (.getfield 21, 3) := by decide +kernel
theorem dX10_customsThere_13 : decode cX10_customsThere 13 = .ok (.iload_n 2, 1) := by decide +kernel
theorem dX10_customsThere_14 : decode cX10_customsThere 14 = .ok (.aaload, 1) := by decide +kernel
theorem dX10_customsThere_15 : decode cX10_customsThere 15 = .ok (.astore_n 3, 1) := by decide +kernel
theorem dX10_customsThere_16 : decode cX10_customsThere 16 = .ok (.aload_n 3, 1) := by decide +kernel
theorem dX10_customsThere_17 : decode cX10_customsThere 17 = .ok (.ifnull 13, 3) := by decide +kernel
theorem dX10_customsThere_20 : decode cX10_customsThere 20 = .ok (.aload_n 3, 1) := by decide +kernel
theorem dX10_customsThere_21 : decode cX10_customsThere 21 = .ok (.getfield 242, 3) := by decide +kernel
theorem dX10_customsThere_24 : decode cX10_customsThere 24 = .ok (.ifCond .ne 6, 3) := by decide +kernel
theorem dX10_customsThere_27 : decode cX10_customsThere 27 = .ok (.iinc 1 1, 3) := by decide +kernel
theorem dX10_customsThere_30 : decode cX10_customsThere 30 = .ok (.iinc 2 1, 3) := by decide +kernel
theorem dX10_customsThere_33 : decode cX10_customsThere 33 = .ok (.goto (-29), 3) := by decide +kernel
theorem dX10_customsThere_36 : decode cX10_customsThere 36 = .ok (.iload_n 1, 1) := by decide +kernel
theorem dX10_customsThere_37 : decode cX10_customsThere 37 = .ok (.ireturn, 1) := by decide +kernel
theorem dX10_measuresNamed_0 : decode cX10_measuresNamed 0 = .ok (.iconst 0, 1) := by decide +kernel
theorem dX10_measuresNamed_1 : decode cX10_measuresNamed 1 = .ok (.istore_n 1, 1) := by decide +kernel
theorem dX10_measuresNamed_2 : decode cX10_measuresNamed 2 = .ok (.iconst 0, 1) := by decide +kernel
theorem dX10_measuresNamed_3 : decode cX10_measuresNamed 3 = .ok (.istore_n 2, 1) := by decide +kernel
theorem dX10_measuresNamed_4 : decode cX10_measuresNamed 4 = .ok (.iload_n 2, 1) := by decide +kernel
theorem dX10_measuresNamed_5 : decode cX10_measuresNamed 5 = .ok (.aload_n 0, 1) := by decide +kernel
theorem dX10_measuresNamed_6 : decode cX10_measuresNamed 6 = .ok (.getfield 99, 3) := by decide +kernel
theorem dX10_measuresNamed_9 : decode cX10_measuresNamed 9 = .ok (.if_icmp .ge 36, 3) := by decide +kernel
theorem dX10_measuresNamed_12 : decode cX10_measuresNamed 12 = .ok (.aload_n 0, 1) := by decide +kernel
theorem dX10_measuresNamed_13 : decode cX10_measuresNamed 13 = .ok (.getfield 15, 3) := by decide +kernel
theorem dX10_measuresNamed_16 : decode cX10_measuresNamed 16 = .ok (.iload_n 2, 1) := by decide +kernel
theorem dX10_measuresNamed_17 : decode cX10_measuresNamed 17 = .ok (.aaload, 1) := by decide +kernel
theorem dX10_measuresNamed_18 : decode cX10_measuresNamed 18 = .ok (.astore_n 3, 1) := by decide +kernel
theorem dX10_measuresNamed_19 : decode cX10_measuresNamed 19 = .ok (.aload_n 3, 1) := by decide +kernel
theorem dX10_measuresNamed_20 : decode cX10_measuresNamed 20 = .ok (.ifnull 19, 3) := by decide +kernel
theorem dX10_measuresNamed_23 : decode cX10_measuresNamed 23 = .ok (.iload_n 1, 1) := by decide +kernel
theorem dX10_measuresNamed_24 : decode cX10_measuresNamed 24 = .ok (.iconst 1, 1) := by decide +kernel
theorem dX10_measuresNamed_25 : decode cX10_measuresNamed 25 = .ok (.aload_n 3, 1) := by decide +kernel
theorem dX10_measuresNamed_26 : decode cX10_measuresNamed 26 = .ok (.getfield 145, 3) := by decide +kernel
theorem dX10_measuresNamed_29 : decode cX10_measuresNamed 29 = .ok (.ishl, 1) := by decide +kernel
theorem dX10_measuresNamed_30 : decode cX10_measuresNamed 30 = .ok (.iconst 1, 1) := by decide +kernel
theorem dX10_measuresNamed_31 : decode cX10_measuresNamed 31 = .ok (.aload_n 3, 1) := by decide +kernel
theorem dX10_measuresNamed_32 : decode cX10_measuresNamed 32 = .ok (.getfield 148, 3) := by decide +kernel
theorem dX10_measuresNamed_35 : decode cX10_measuresNamed 35 = .ok (.ishl, 1) := by decide +kernel
theorem dX10_measuresNamed_36 : decode cX10_measuresNamed 36 = .ok (.ior, 1) := by decide +kernel
theorem dX10_measuresNamed_37 : decode cX10_measuresNamed 37 = .ok (.ior, 1) := by decide +kernel
theorem dX10_measuresNamed_38 : decode cX10_measuresNamed 38 = .ok (.istore_n 1, 1) := by decide +kernel
theorem dX10_measuresNamed_39 : decode cX10_measuresNamed 39 = .ok (.iinc 2 1, 3) := by decide +kernel
theorem dX10_measuresNamed_42 : decode cX10_measuresNamed 42 = .ok (.goto (-38), 3) := by decide +kernel
theorem dX10_measuresNamed_45 : decode cX10_measuresNamed 45 = .ok (.iload_n 1, 1) := by decide +kernel
theorem dX10_measuresNamed_46 : decode cX10_measuresNamed 46 = .ok (.invokestatic 339, 3) := by decide +kernel
theorem dX10_measuresNamed_49 : decode cX10_measuresNamed 49 = .ok (.ireturn, 1) := by decide +kernel
theorem dX10_weighLines_0 : decode cX10_weighLines 0 = .ok (.iconst 0, 1) := by decide +kernel
theorem dX10_weighLines_1 : decode cX10_weighLines 1 = .ok (.istore_n 2, 1) := by decide +kernel
theorem dX10_weighLines_2 : decode cX10_weighLines 2 = .ok (.iload_n 2, 1) := by decide +kernel
theorem dX10_weighLines_3 : decode cX10_weighLines 3 = .ok (.aload_n 0, 1) := by decide +kernel
theorem dX10_weighLines_4 : decode cX10_weighLines 4 = .ok (.getfield 275, 3) := by decide +kernel
theorem dX10_weighLines_7 : decode cX10_weighLines 7 = .ok (.if_icmp .ge 87, 3) := by decide +kernel
theorem dX10_weighLines_10 : decode cX10_weighLines 10 = .ok (.aload_n 0, 1) := by decide +kernel
theorem dX10_weighLines_11 : decode cX10_weighLines 11 = .ok (.getfield 27, 3) := by decide +kernel
theorem dX10_weighLines_14 : decode cX10_weighLines 14 = .ok (.iload_n 2, 1) := by decide +kernel
theorem dX10_weighLines_15 : decode cX10_weighLines 15 = .ok (.aaload, 1) := by decide +kernel
theorem dX10_weighLines_16 : decode cX10_weighLines 16 = .ok (.astore_n 3, 1) := by decide +kernel
theorem dX10_weighLines_17 : decode cX10_weighLines 17 = .ok (.aload_n 3, 1) := by decide +kernel
theorem dX10_weighLines_18 : decode cX10_weighLines 18 = .ok (.ifnull 70, 3) := by decide +kernel
theorem dX10_weighLines_21 : decode cX10_weighLines 21 = .ok (.aload_n 0, 1) := by decide +kernel
theorem dX10_weighLines_22 : decode cX10_weighLines 22 = .ok (.aload_n 3, 1) := by decide +kernel
theorem dX10_weighLines_23 : decode cX10_weighLines 23 = .ok (.getfield 344, 3) := by decide +kernel
theorem dX10_weighLines_26 : decode cX10_weighLines 26 = .ok (.sipush 10000, 3) := by decide +kernel
theorem dX10_weighLines_29 : decode cX10_weighLines 29 = .ok (.imul, 1) := by decide +kernel
theorem dX10_weighLines_30 : decode cX10_weighLines 30 = .ok (.aload_n 3, 1) := by decide +kernel
theorem dX10_weighLines_31 : decode cX10_weighLines 31 = .ok (.getfield 345, 3) := by decide +kernel
theorem dX10_weighLines_34 : decode cX10_weighLines 34 = .ok (.iadd, 1) := by decide +kernel
theorem dX10_weighLines_35 : decode cX10_weighLines 35 = .ok (.invokevirtual 177, 3) := by decide +kernel
theorem dX10_weighLines_38 : decode cX10_weighLines 38 = .ok (.aload_n 0, 1) := by decide +kernel
theorem dX10_weighLines_39 : decode cX10_weighLines 39 = .ok (.getfield 34, 3) := by decide +kernel
theorem dX10_weighLines_42 : decode cX10_weighLines 42 = .ok (.aload_n 3, 1) := by decide +kernel
theorem dX10_weighLines_43 : decode cX10_weighLines 43 = .ok (.getfield 348, 3) := by decide +kernel
theorem dX10_weighLines_46 : decode cX10_weighLines 46 = .ok (.iload_n 1, 1) := by decide +kernel
theorem dX10_weighLines_47 : decode cX10_weighLines 47 = .ok (.iconst 0, 1) := by decide +kernel
theorem dX10_weighLines_48 : decode cX10_weighLines 48 = .ok (.aload_n 0, 1) := by decide +kernel
theorem dX10_weighLines_49 : decode cX10_weighLines 49 = .ok (.getfield 48, 3) := by decide +kernel
theorem dX10_weighLines_52 : decode cX10_weighLines 52 = .ok (.invokevirtual 189, 3) := by decide +kernel
theorem dX10_weighLines_55 : decode cX10_weighLines 55 = .ok (.ifCond .ne 5, 3) := by decide +kernel
theorem dX10_weighLines_58 : decode cX10_weighLines 58 = .ok (.iconst 0, 1) := by decide +kernel
theorem dX10_weighLines_59 : decode cX10_weighLines 59 = .ok (.ireturn, 1) := by decide +kernel
theorem dX10_weighLines_60 : decode cX10_weighLines 60 = .ok (.aload_n 3, 1) := by decide +kernel
theorem dX10_weighLines_61 : decode cX10_weighLines 61 = .ok (.getfield 351, 3) := by decide +kernel
theorem dX10_weighLines_64 : decode cX10_weighLines 64 = .ok (.aload_n 0, 1) := by decide +kernel
theorem dX10_weighLines_65 : decode cX10_weighLines 65 = .ok (.getfield 34, 3) := by decide +kernel
theorem dX10_weighLines_68 : decode cX10_weighLines 68 = .ok (.invokevirtual 201, 3) := by decide +kernel
theorem dX10_weighLines_71 : decode cX10_weighLines 71 = .ok (.invokevirtual 352, 3) := by decide +kernel
theorem dX10_weighLines_74 : decode cX10_weighLines 74 = .ok (.aload_n 3, 1) := by decide +kernel
theorem dX10_weighLines_75 : decode cX10_weighLines 75 = .ok (.getfield 356, 3) := by decide +kernel
theorem dX10_weighLines_78 : decode cX10_weighLines 78 = .ok (.aload_n 0, 1) := by decide +kernel
theorem dX10_weighLines_79 : decode cX10_weighLines 79 = .ok (.getfield 34, 3) := by decide +kernel
theorem dX10_weighLines_82 : decode cX10_weighLines 82 = .ok (.invokevirtual 204, 3) := by decide +kernel
theorem dX10_weighLines_85 : decode cX10_weighLines 85 = .ok (.invokevirtual 352, 3) := by decide +kernel
theorem dX10_weighLines_88 : decode cX10_weighLines 88 = .ok (.iinc 2 1, 3) := by decide +kernel
theorem dX10_weighLines_91 : decode cX10_weighLines 91 = .ok (.goto (-89), 3) := by decide +kernel
theorem dX10_weighLines_94 : decode cX10_weighLines 94 = .ok (.iconst 1, 1) := by decide +kernel
theorem dX10_weighLines_95 : decode cX10_weighLines 95 = .ok (.ireturn, 1) := by decide +kernel
theorem dX10_sumLines_0 : decode cX10_sumLines 0 = .ok (.aload_n 0, 1) := by decide +kernel
theorem dX10_sumLines_1 : decode cX10_sumLines 1 = .ok (.getfield 69, 3) := by decide +kernel
theorem dX10_sumLines_4 : decode cX10_sumLines 4 = .ok (.lconst 0, 1) := by decide +kernel
theorem dX10_sumLines_5 : decode cX10_sumLines 5 = .ok (.lconst 1, 1) := by decide +kernel
theorem dX10_sumLines_6 : decode cX10_sumLines 6 = .ok (.invokevirtual 357, 3) := by decide +kernel
theorem dX10_sumLines_9 : decode cX10_sumLines 9 = .ok (.aload_n 0, 1) := by decide +kernel
theorem dX10_sumLines_10 : decode cX10_sumLines 10 = .ok (.getfield 73, 3) := by decide +kernel
theorem dX10_sumLines_13 : decode cX10_sumLines 13 = .ok (.lconst 0, 1) := by decide +kernel
theorem dX10_sumLines_14 : decode cX10_sumLines 14 = .ok (.lconst 1, 1) := by decide +kernel
theorem dX10_sumLines_15 : decode cX10_sumLines 15 = .ok (.invokevirtual 357, 3) := by decide +kernel
theorem dX10_sumLines_18 : decode cX10_sumLines 18 = .ok (.iconst 0, 1) := by decide +kernel
theorem dX10_sumLines_19 : decode cX10_sumLines 19 = .ok (.istore 4, 2) := by decide +kernel
theorem dX10_sumLines_21 : decode cX10_sumLines 21 = .ok (.iload 4, 2) := by decide +kernel
theorem dX10_sumLines_23 : decode cX10_sumLines 23 = .ok (.aload_n 0, 1) := by decide +kernel
theorem dX10_sumLines_24 : decode cX10_sumLines 24 = .ok (.getfield 275, 3) := by decide +kernel
theorem dX10_sumLines_27 : decode cX10_sumLines 27 = .ok (.if_icmp .ge 123, 3) := by decide +kernel
theorem dX10_sumLines_30 : decode cX10_sumLines 30 = .ok (.aload_n 0, 1) := by decide +kernel
theorem dX10_sumLines_31 : decode cX10_sumLines 31 = .ok (.getfield 27, 3) := by decide +kernel
theorem dX10_sumLines_34 : decode cX10_sumLines 34 = .ok (.iload 4, 2) := by decide +kernel
theorem dX10_sumLines_36 : decode cX10_sumLines 36 = .ok (.aaload, 1) := by decide +kernel
theorem dX10_sumLines_37 : decode cX10_sumLines 37 = .ok (.astore 5, 2) := by decide +kernel
theorem dX10_sumLines_39 : decode cX10_sumLines 39 = .ok (.aload 5, 2) := by decide +kernel
theorem dX10_sumLines_41 : decode cX10_sumLines 41 = .ok (.ifnull 103, 3) := by decide +kernel
theorem dX10_sumLines_44 : decode cX10_sumLines 44 = .ok (.iload 4, 2) := by decide +kernel
theorem dX10_sumLines_46 : decode cX10_sumLines 46 = .ok (.iload_n 1, 1) := by decide +kernel
theorem dX10_sumLines_47 : decode cX10_sumLines 47 = .ok (.if_icmp .ne 7, 3) := by decide +kernel
theorem dX10_sumLines_50 : decode cX10_sumLines 50 = .ok (.lload_n 2, 1) := by decide +kernel
theorem dX10_sumLines_51 : decode cX10_sumLines 51 = .ok (.goto 9, 3) := by decide +kernel
theorem dX10_sumLines_54 : decode cX10_sumLines 54 = .ok (.aload 5, 2) := by decide +kernel
theorem dX10_sumLines_56 : decode cX10_sumLines 56 = .ok (.getfield 285, 3) := by decide +kernel
theorem dX10_sumLines_59 : decode cX10_sumLines 59 = .ok (.i2l, 1) := by decide +kernel
theorem dX10_sumLines_60 : decode cX10_sumLines 60 = .ok (.lstore 6, 2) := by decide +kernel
theorem dX10_sumLines_62 : decode cX10_sumLines 62 = .ok (.aload_n 0, 1) := by decide +kernel
theorem dX10_sumLines_63 : decode cX10_sumLines 63 = .ok (.getfield 76, 3) := by decide +kernel
theorem dX10_sumLines_66 : decode cX10_sumLines 66 = .ok (.lload 6, 2) := by decide +kernel
theorem dX10_sumLines_68 : decode cX10_sumLines 68 = .ok (.lconst 0, 1) := by decide +kernel
theorem dX10_sumLines_69 : decode cX10_sumLines 69 = .ok (.lcmp, 1) := by decide +kernel
theorem dX10_sumLines_70 : decode cX10_sumLines 70 = .ok (.ifCond .ge 11, 3) := by decide +kernel
theorem dX10_sumLines_73 : decode cX10_sumLines 73 = .ok (.aload 5, 2) := by decide +kernel
theorem dX10_sumLines_75 : decode cX10_sumLines 75 = .ok (.getfield 356, 3) := by decide +kernel
theorem dX10_sumLines_78 : decode cX10_sumLines 78 = .ok (.goto 8, 3) := by decide +kernel
theorem dX10_sumLines_81 : decode cX10_sumLines 81 = .ok (.aload 5, 2) := by decide +kernel
theorem dX10_sumLines_83 : decode cX10_sumLines 83 = .ok (.getfield 351, 3) := by decide +kernel
theorem dX10_sumLines_86 : decode cX10_sumLines 86 = .ok (.lload 6, 2) := by decide +kernel
theorem dX10_sumLines_88 : decode cX10_sumLines 88 = .ok (.lconst 1, 1) := by decide +kernel
theorem dX10_sumLines_89 : decode cX10_sumLines 89 = .ok (.invokevirtual 360, 3) := by decide +kernel
theorem dX10_sumLines_92 : decode cX10_sumLines 92 = .ok (.aload_n 0, 1) := by decide +kernel
theorem dX10_sumLines_93 : decode cX10_sumLines 93 = .ok (.getfield 69, 3) := by decide +kernel
theorem dX10_sumLines_96 : decode cX10_sumLines 96 = .ok (.aload_n 0, 1) := by decide +kernel
theorem dX10_sumLines_97 : decode cX10_sumLines 97 = .ok (.getfield 76, 3) := by decide +kernel
theorem dX10_sumLines_100 : decode cX10_sumLines 100 = .ok (.invokevirtual 364, 3) := by decide +kernel
theorem dX10_sumLines_103 : decode cX10_sumLines 103 = .ok (.aload_n 0, 1) := by decide +kernel
theorem dX10_sumLines_104 : decode cX10_sumLines 104 = .ok (.getfield 76, 3) := by decide +kernel
theorem dX10_sumLines_107 : decode cX10_sumLines 107 = .ok (.lload 6, 2) := by decide +kernel
theorem dX10_sumLines_109 : decode cX10_sumLines 109 = .ok (.lconst 0, 1) := by decide +kernel
theorem dX10_sumLines_110 : decode cX10_sumLines 110 = .ok (.lcmp, 1) := by decide +kernel
theorem dX10_sumLines_111 : decode cX10_sumLines 111 = .ok (.ifCond .ge 11, 3) := by decide +kernel
theorem dX10_sumLines_114 : decode cX10_sumLines 114 = .ok (.aload 5, 2) := by decide +kernel
theorem dX10_sumLines_116 : decode cX10_sumLines 116 = .ok (.getfield 351, 3) := by decide +kernel
theorem dX10_sumLines_119 : decode cX10_sumLines 119 = .ok (.goto 8, 3) := by decide +kernel
theorem dX10_sumLines_122 : decode cX10_sumLines 122 = .ok (.aload 5, 2) := by decide +kernel
theorem dX10_sumLines_124 : decode cX10_sumLines 124 = .ok (.getfield 356, 3) := by decide +kernel
theorem dX10_sumLines_127 : decode cX10_sumLines 127 = .ok (.lload 6, 2) := by decide +kernel
theorem dX10_sumLines_129 : decode cX10_sumLines 129 = .ok (.lconst 1, 1) := by decide +kernel
theorem dX10_sumLines_130 : decode cX10_sumLines 130 = .ok (.invokevirtual 360, 3) := by decide +kernel
theorem dX10_sumLines_133 : decode cX10_sumLines 133 = .ok (.aload_n 0, 1) := by decide +kernel
theorem dX10_sumLines_134 : decode cX10_sumLines 134 = .ok (.getfield 73, 3) := by decide +kernel
theorem dX10_sumLines_137 : decode cX10_sumLines 137 = .ok (.aload_n 0, 1) := by decide +kernel
theorem dX10_sumLines_138 : decode cX10_sumLines 138 = .ok (.getfield 76, 3) := by decide +kernel
theorem dX10_sumLines_141 : decode cX10_sumLines 141 = .ok (.invokevirtual 364, 3) := by decide +kernel
theorem dX10_sumLines_144 : decode cX10_sumLines 144 = .ok (.iinc 4 1, 3) := by decide +kernel
theorem dX10_sumLines_147 : decode cX10_sumLines 147 = .ok (.goto (-126), 3) := by decide +kernel
theorem dX10_sumLines_150 : decode cX10_sumLines 150 = .ok (.return_, 1) := by decide +kernel
theorem dX10_tryAmount_0 : decode cX10_tryAmount 0 = .ok (.aload_n 0, 1) := by decide +kernel
theorem dX10_tryAmount_1 : decode cX10_tryAmount 1 = .ok (.iload_n 1, 1) := by decide +kernel
theorem dX10_tryAmount_2 : decode cX10_tryAmount 2 = .ok (.lload_n 2, 1) := by decide +kernel
theorem dX10_tryAmount_3 : decode cX10_tryAmount 3 = .ok (.invokevirtual 291, 3) := by decide +kernel
theorem dX10_tryAmount_6 : decode cX10_tryAmount 6 = .ok (.aload_n 0, 1) := by decide +kernel
theorem dX10_tryAmount_7 : decode cX10_tryAmount 7 = .ok (.getfield 69, 3) := by decide +kernel
theorem dX10_tryAmount_10 : decode cX10_tryAmount 10 = .ok (.getfield 324, 3) := by decide +kernel
theorem dX10_tryAmount_13 : decode cX10_tryAmount 13 = .ok (.ifCond .ne 13, 3) := by decide +kernel
theorem dX10_tryAmount_16 : decode cX10_tryAmount 16 = .ok (.aload_n 0, 1) := by decide +kernel
theorem dX10_tryAmount_17 : decode cX10_tryAmount 17 = .ok (.getfield 73, 3) := by decide +kernel
theorem dX10_tryAmount_20 : decode cX10_tryAmount 20 = .ok (.getfield 324, 3) := by decide +kernel
theorem dX10_tryAmount_23 : decode cX10_tryAmount 23 = .ok (.ifCond .eq 7, 3) := by decide +kernel
theorem dX10_tryAmount_26 : decode cX10_tryAmount 26 = .ok (.ldc2_w 220, 3) := by decide +kernel
theorem dX10_tryAmount_29 : decode cX10_tryAmount 29 = .ok (.lreturn, 1) := by decide +kernel
theorem dX10_tryAmount_30 : decode cX10_tryAmount 30 = .ok (.aload_n 0, 1) := by decide +kernel
theorem dX10_tryAmount_31 : decode cX10_tryAmount 31 = .ok (.getfield 69, 3) := by decide +kernel
theorem dX10_tryAmount_34 : decode cX10_tryAmount 34 = .ok (.invokevirtual 367, 3) := by decide +kernel
theorem dX10_tryAmount_37 : decode cX10_tryAmount 37 = .ok (.iload 4, 2) := by decide +kernel
theorem dX10_tryAmount_39 : decode cX10_tryAmount 39 = .ok (.i2l, 1) := by decide +kernel
theorem dX10_tryAmount_40 : decode cX10_tryAmount 40 = .ok (.lcmp, 1) := by decide +kernel
theorem dX10_tryAmount_41 : decode cX10_tryAmount 41 = .ok (.ifCond .gt 21, 3) := by decide +kernel
theorem dX10_tryAmount_44 : decode cX10_tryAmount 44 = .ok (.iload 4, 2) := by decide +kernel
theorem dX10_tryAmount_46 : decode cX10_tryAmount 46 = .ok (.i2l, 1) := by decide +kernel
theorem dX10_tryAmount_47 : decode cX10_tryAmount 47 = .ok (.aload_n 0, 1) := by decide +kernel
theorem dX10_tryAmount_48 : decode cX10_tryAmount 48 = .ok (.getfield 73, 3) := by decide +kernel
theorem dX10_tryAmount_51 : decode cX10_tryAmount 51 = .ok (.invokevirtual 370, 3) := by decide +kernel
theorem dX10_tryAmount_54 : decode cX10_tryAmount 54 = .ok (.lcmp, 1) := by decide +kernel
theorem dX10_tryAmount_55 : decode cX10_tryAmount 55 = .ok (.ifCond .gt 7, 3) := by decide +kernel
theorem dX10_tryAmount_58 : decode cX10_tryAmount 58 = .ok (.lconst 1, 1) := by decide +kernel
theorem dX10_tryAmount_59 : decode cX10_tryAmount 59 = .ok (.goto 4, 3) := by decide +kernel
theorem dX10_tryAmount_62 : decode cX10_tryAmount 62 = .ok (.lconst 0, 1) := by decide +kernel
theorem dX10_tryAmount_63 : decode cX10_tryAmount 63 = .ok (.lreturn, 1) := by decide +kernel
theorem dX10_firstSlip_0 : decode cX10_firstSlip 0 = .ok (.iconst 1, 1) := by decide +kernel
theorem dX10_firstSlip_1 : decode cX10_firstSlip 1 = .ok (.istore_n 2, 1) := by decide +kernel
theorem dX10_firstSlip_2 : decode cX10_firstSlip 2 = .ok (.iload_n 2, 1) := by decide +kernel
theorem dX10_firstSlip_3 : decode cX10_firstSlip 3 = .ok (.iconst 2, 1) := by decide +kernel
theorem dX10_firstSlip_4 : decode cX10_firstSlip 4 = .ok (.if_icmp .gt 64, 3) := by decide +kernel
theorem dX10_firstSlip_7 : decode cX10_firstSlip 7 = .ok (.iconst 0, 1) := by decide +kernel
theorem dX10_firstSlip_8 : decode cX10_firstSlip 8 = .ok (.istore_n 3, 1) := by decide +kernel
theorem dX10_firstSlip_9 : decode cX10_firstSlip 9 = .ok (.iload_n 3, 1) := by decide +kernel
theorem dX10_firstSlip_10 : decode cX10_firstSlip 10 = .ok (.aload_n 0, 1) := by decide +kernel
theorem dX10_firstSlip_11 : decode cX10_firstSlip 11 = .ok (.getfield 275, 3) := by decide +kernel
theorem dX10_firstSlip_14 : decode cX10_firstSlip 14 = .ok (.if_icmp .ge 48, 3) := by decide +kernel
theorem dX10_firstSlip_17 : decode cX10_firstSlip 17 = .ok (.aload_n 0, 1) := by decide +kernel
theorem dX10_firstSlip_18 : decode cX10_firstSlip 18 = .ok (.getfield 27, 3) := by decide +kernel
theorem dX10_firstSlip_21 : decode cX10_firstSlip 21 = .ok (.iload_n 3, 1) := by decide +kernel
theorem dX10_firstSlip_22 : decode cX10_firstSlip 22 = .ok (.aaload, 1) := by decide +kernel
theorem dX10_firstSlip_23 : decode cX10_firstSlip 23 = .ok (.astore 4, 2) := by decide +kernel
theorem dX10_firstSlip_25 : decode cX10_firstSlip 25 = .ok (.aload 4, 2) := by decide +kernel
theorem dX10_firstSlip_27 : decode cX10_firstSlip 27 = .ok (.ifnull 29, 3) := by decide +kernel
theorem dX10_firstSlip_30 : decode cX10_firstSlip 30 = .ok (.aload_n 0, 1) := by decide +kernel
theorem dX10_firstSlip_31 : decode cX10_firstSlip 31 = .ok (.iload_n 3, 1) := by decide +kernel
theorem dX10_firstSlip_32 : decode cX10_firstSlip 32 = .ok (.aload 4, 2) := by decide +kernel
theorem dX10_firstSlip_34 : decode cX10_firstSlip 34 = .ok (.getfield 285, 3) := by decide +kernel
theorem dX10_firstSlip_37 : decode cX10_firstSlip 37 = .ok (.iload_n 2, 1) := by decide +kernel
theorem dX10_firstSlip_38 : decode cX10_firstSlip 38 = .ok (.iload_n 1, 1) := by decide +kernel
theorem dX10_firstSlip_39 : decode cX10_firstSlip 39 = .ok (.invokevirtual 373, 3) := by decide +kernel
theorem dX10_firstSlip_42 : decode cX10_firstSlip 42 = .ok (.lstore 5, 2) := by decide +kernel
theorem dX10_firstSlip_44 : decode cX10_firstSlip 44 = .ok (.lload 5, 2) := by decide +kernel
theorem dX10_firstSlip_46 : decode cX10_firstSlip 46 = .ok (.ldc2_w 196, 3) := by decide +kernel
theorem dX10_firstSlip_49 : decode cX10_firstSlip 49 = .ok (.lcmp, 1) := by decide +kernel
theorem dX10_firstSlip_50 : decode cX10_firstSlip 50 = .ok (.ifCond .eq 6, 3) := by decide +kernel
theorem dX10_firstSlip_53 : decode cX10_firstSlip 53 = .ok (.lload 5, 2) := by decide +kernel
theorem dX10_firstSlip_55 : decode cX10_firstSlip 55 = .ok (.lreturn, 1) := by decide +kernel
theorem dX10_firstSlip_56 : decode cX10_firstSlip 56 = .ok (.iinc 3 1, 3) := by decide +kernel
theorem dX10_firstSlip_59 : decode cX10_firstSlip 59 = .ok (.goto (-50), 3) := by decide +kernel
theorem dX10_firstSlip_62 : decode cX10_firstSlip 62 = .ok (.iinc 2 1, 3) := by decide +kernel
theorem dX10_firstSlip_65 : decode cX10_firstSlip 65 = .ok (.goto (-63), 3) := by decide +kernel
theorem dX10_firstSlip_68 : decode cX10_firstSlip 68 = .ok (.ldc2_w 196, 3) := by decide +kernel
theorem dX10_firstSlip_71 : decode cX10_firstSlip 71 = .ok (.lreturn, 1) := by decide +kernel
theorem dX10_slipOfLine_0 : decode cX10_slipOfLine 0 = .ok (.iconst 2, 1) := by decide +kernel
theorem dX10_slipOfLine_1 : decode cX10_slipOfLine 1 = .ok (.iload_n 3, 1) := by decide +kernel
theorem dX10_slipOfLine_2 : decode cX10_slipOfLine 2 = .ok (.imul, 1) := by decide +kernel
theorem dX10_slipOfLine_3 : decode cX10_slipOfLine 3 = .ok (.istore 5, 2) := by decide +kernel
theorem dX10_slipOfLine_5 : decode cX10_slipOfLine 5 = .ok (.iload 5, 2) := by decide +kernel
theorem dX10_slipOfLine_7 : decode cX10_slipOfLine 7 = .ok (.iconst 1, 1) := by decide +kernel
theorem dX10_slipOfLine_8 : decode cX10_slipOfLine 8 = .ok (.isub, 1) := by decide +kernel
theorem dX10_slipOfLine_9 : decode cX10_slipOfLine 9 = .ok (.istore 6, 2) := by decide +kernel
theorem dX10_slipOfLine_11 : decode cX10_slipOfLine 11 = .ok (.iload 6, 2) := by decide +kernel
theorem dX10_slipOfLine_13 : decode cX10_slipOfLine 13 = .ok (.iload 5, 2) := by decide +kernel
theorem dX10_slipOfLine_15 : decode cX10_slipOfLine 15 = .ok (.if_icmp .gt 64, 3) := by decide +kernel
theorem dX10_slipOfLine_18 : decode cX10_slipOfLine 18 = .ok (.iload 6, 2) := by decide +kernel
theorem dX10_slipOfLine_20 : decode cX10_slipOfLine 20 = .ok (.iload_n 2, 1) := by decide +kernel
theorem dX10_slipOfLine_21 : decode cX10_slipOfLine 21 = .ok (.invokestatic 377, 3) := by decide +kernel
theorem dX10_slipOfLine_24 : decode cX10_slipOfLine 24 = .ok (.ifCond .eq 49, 3) := by decide +kernel
theorem dX10_slipOfLine_27 : decode cX10_slipOfLine 27 = .ok (.aload_n 0, 1) := by decide +kernel
theorem dX10_slipOfLine_28 : decode cX10_slipOfLine 28 = .ok (.iload_n 1, 1) := by decide +kernel
theorem dX10_slipOfLine_29 : decode cX10_slipOfLine 29 = .ok (.iload 6, 2) := by decide +kernel
theorem dX10_slipOfLine_31 : decode cX10_slipOfLine 31 = .ok (.iload_n 2, 1) := by decide +kernel
theorem dX10_slipOfLine_32 : decode cX10_slipOfLine 32 = .ok (.invokestatic 380, 3) := by decide +kernel
theorem dX10_slipOfLine_35 : decode cX10_slipOfLine 35 = .ok (.iload 4, 2) := by decide +kernel
theorem dX10_slipOfLine_37 : decode cX10_slipOfLine 37 = .ok (.invokevirtual 297, 3) := by decide +kernel
theorem dX10_slipOfLine_40 : decode cX10_slipOfLine 40 = .ok (.lstore 7, 2) := by decide +kernel
theorem dX10_slipOfLine_42 : decode cX10_slipOfLine 42 = .ok (.lload 7, 2) := by decide +kernel
theorem dX10_slipOfLine_44 : decode cX10_slipOfLine 44 = .ok (.lconst 0, 1) := by decide +kernel
theorem dX10_slipOfLine_45 : decode cX10_slipOfLine 45 = .ok (.lcmp, 1) := by decide +kernel
theorem dX10_slipOfLine_46 : decode cX10_slipOfLine 46 = .ok (.ifCond .eq 27, 3) := by decide +kernel
theorem dX10_slipOfLine_49 : decode cX10_slipOfLine 49 = .ok (.lload 7, 2) := by decide +kernel
theorem dX10_slipOfLine_51 : decode cX10_slipOfLine 51 = .ok (.lconst 1, 1) := by decide +kernel
theorem dX10_slipOfLine_52 : decode cX10_slipOfLine 52 = .ok (.lcmp, 1) := by decide +kernel
theorem dX10_slipOfLine_53 : decode cX10_slipOfLine 53 = .ok (.ifCond .ne 16, 3) := by decide +kernel
theorem dX10_slipOfLine_56 : decode cX10_slipOfLine 56 = .ok (.ldc2_w 384, 3) := by decide +kernel
theorem dX10_slipOfLine_59 : decode cX10_slipOfLine 59 = .ok (.iload_n 1, 1) := by decide +kernel
theorem dX10_slipOfLine_60 : decode cX10_slipOfLine 60 = .ok (.i2l, 1) := by decide +kernel
theorem dX10_slipOfLine_61 : decode cX10_slipOfLine 61 = .ok (.lmul, 1) := by decide +kernel
theorem dX10_slipOfLine_62 : decode cX10_slipOfLine 62 = .ok (.iload 6, 2) := by decide +kernel
theorem dX10_slipOfLine_64 : decode cX10_slipOfLine 64 = .ok (.i2l, 1) := by decide +kernel
theorem dX10_slipOfLine_65 : decode cX10_slipOfLine 65 = .ok (.ladd, 1) := by decide +kernel
theorem dX10_slipOfLine_66 : decode cX10_slipOfLine 66 = .ok (.goto 6, 3) := by decide +kernel
theorem dX10_slipOfLine_69 : decode cX10_slipOfLine 69 = .ok (.ldc2_w 220, 3) := by decide +kernel
theorem dX10_slipOfLine_72 : decode cX10_slipOfLine 72 = .ok (.lreturn, 1) := by decide +kernel
theorem dX10_slipOfLine_73 : decode cX10_slipOfLine 73 = .ok (.iinc 6 1, 3) := by decide +kernel
theorem dX10_slipOfLine_76 : decode cX10_slipOfLine 76 = .ok (.goto (-65), 3) := by decide +kernel
theorem dX10_slipOfLine_79 : decode cX10_slipOfLine 79 = .ok (.ldc2_w 196, 3) := by decide +kernel
theorem dX10_slipOfLine_82 : decode cX10_slipOfLine 82 = .ok (.lreturn, 1) := by decide +kernel
theorem dX11_init_0 : decode cX11_init 0 = .ok (.aload_n 0, 1) := by decide +kernel
theorem dX11_init_1 : decode cX11_init 1 = .ok (.invokespecial 1, 3) := by decide +kernel
theorem dX11_init_4 : decode cX11_init 4 = .ok (.aload_n 0, 1) := by decide +kernel
theorem dX11_init_5 : decode cX11_init 5 = .ok (.bipush 8, 2) := by decide +kernel
theorem dX11_init_7 : decode cX11_init 7 = .ok (.newarray .int, 2) := by decide +kernel
theorem dX11_init_9 : decode cX11_init 9 = .ok (.putfield 7, 3) := by decide +kernel
theorem dX11_init_12 : decode cX11_init 12 = .ok (.aload_n 0, 1) := by decide +kernel
theorem dX11_init_13 : decode cX11_init 13 = .ok (.bipush 24, 2) := by decide +kernel
theorem dX11_init_15 : decode cX11_init 15 = .ok (.newarray .int, 2) := by decide +kernel
theorem dX11_init_17 : decode cX11_init 17 = .ok (.putfield 13, 3) := by decide +kernel
theorem dX11_init_20 : decode cX11_init 20 = .ok (.aload_n 0, 1) := by decide +kernel
theorem dX11_init_21 : decode cX11_init 21 = .ok (.bipush 24, 2) := by decide +kernel
theorem dX11_init_23 : decode cX11_init 23 = .ok (.newarray .int, 2) := by decide +kernel
theorem dX11_init_25 : decode cX11_init 25 = .ok (.putfield 16, 3) := by decide +kernel
theorem dX11_init_28 : decode cX11_init 28 = .ok (.aload_n 0, 1) := by decide +kernel
theorem dX11_init_29 : decode cX11_init 29 = .ok (.bipush 24, 2) := by decide +kernel
theorem dX11_init_31 : decode cX11_init 31 = .ok (.newarray .int, 2) := by decide +kernel
theorem dX11_init_33 : decode cX11_init 33 = .ok (.putfield 19, 3) := by decide +kernel
theorem dX11_init_36 : decode cX11_init 36 = .ok (.aload_n 0, 1) := by decide +kernel
theorem dX11_init_37 : decode cX11_init 37 = .ok (.bipush 24, 2) := by decide +kernel
theorem dX11_init_39 : decode cX11_init 39 = .ok (.newarray .int, 2) := by decide +kernel
theorem dX11_init_41 : decode cX11_init 41 = .ok (.putfield 22, 3) := by decide +kernel
theorem dX11_init_44 : decode cX11_init 44 = .ok (.aload_n 0, 1) := by decide +kernel
theorem dX11_init_45 : decode cX11_init 45 = .ok (.bipush 24, 2) := by decide +kernel
theorem dX11_init_47 : decode cX11_init 47 = .ok (.newarray .int, 2) := by decide +kernel
theorem dX11_init_49 : decode cX11_init 49 = .ok (.putfield 25, 3) := by decide +kernel
theorem dX11_init_52 : decode cX11_init 52 = .ok (.aload_n 0, 1) := by decide +kernel
theorem dX11_init_53 : decode cX11_init 53 = .ok (.bipush 24, 2) := by decide +kernel
theorem dX11_init_55 : decode cX11_init 55 = .ok (.newarray .int, 2) := by decide +kernel
theorem dX11_init_57 : decode cX11_init 57 = .ok (.putfield 28, 3) := by decide +kernel
theorem dX11_init_60 : decode cX11_init 60 = .ok (.aload_n 0, 1) := by decide +kernel
theorem dX11_init_61 : decode cX11_init 61 = .ok (.bipush 24, 2) := by decide +kernel
theorem dX11_init_63 : decode cX11_init 63 = .ok (.newarray .int, 2) := by decide +kernel
theorem dX11_init_65 : decode cX11_init 65 = .ok (.putfield 31, 3) := by decide +kernel
theorem dX11_init_68 : decode cX11_init 68 = .ok (.aload_n 0, 1) := by decide +kernel
theorem dX11_init_69 : decode cX11_init 69 = .ok (.bipush 24, 2) := by decide +kernel
theorem dX11_init_71 : decode cX11_init 71 = .ok (.newarray .int, 2) := by decide +kernel
theorem dX11_init_73 : decode cX11_init 73 = .ok (.putfield 34, 3) := by decide +kernel
theorem dX11_init_76 : decode cX11_init 76 = .ok (.aload_n 0, 1) := by decide +kernel
theorem dX11_init_77 : decode cX11_init 77 = .ok (.bipush 24, 2) := by decide +kernel
theorem dX11_init_79 : decode cX11_init 79 = .ok (.newarray .int, 2) := by decide +kernel
theorem dX11_init_81 : decode cX11_init 81 = .ok (.putfield 37, 3) := by decide +kernel
theorem dX11_init_84 : decode cX11_init 84 = .ok (.aload_n 0, 1) := by decide +kernel
theorem dX11_init_85 : decode cX11_init 85 = .ok (.bipush 24, 2) := by decide +kernel
theorem dX11_init_87 : decode cX11_init 87 = .ok (.newarray .int, 2) := by decide +kernel
theorem dX11_init_89 : decode cX11_init 89 = .ok (.putfield 40, 3) := by decide +kernel
theorem dX11_init_92 : decode cX11_init 92 = .ok (.aload_n 0, 1) := by decide +kernel
theorem dX11_init_93 : decode cX11_init 93 = .ok (.bipush 24, 2) := by decide +kernel
theorem dX11_init_95 : decode cX11_init 95 = .ok (.newarray .boolean, 2) := by decide +kernel
theorem dX11_init_97 : decode cX11_init 97 = .ok (.putfield 43, 3) := by decide +kernel
theorem dX11_init_100 : decode cX11_init 100 = .ok (.aload_n 0, 1) := by decide +kernel
theorem dX11_init_101 : decode cX11_init 101 = .ok (.iconst 4, 1) := by decide +kernel
theorem dX11_init_102 : decode cX11_init 102 = .ok (.newarray .int, 2) := by decide +kernel
theorem dX11_init_104 : decode cX11_init 104 = .ok (.putfield 47, 3) := by decide +kernel
theorem dX11_init_107 : decode cX11_init 107 = .ok (.aload_n 0, 1) := by decide +kernel
theorem dX11_init_108 : decode cX11_init 108 = .ok (.bipush 20, 2) := by decide +kernel
theorem dX11_init_110 : decode cX11_init 110 = .ok (.newarray .int, 2) := by decide +kernel
theorem dX11_init_112 : decode cX11_init 112 = .ok (.putfield 50, 3) := by decide +kernel
theorem dX11_init_115 : decode cX11_init 115 = .ok (.aload_n 0, 1) := by decide +kernel
theorem dX11_init_116 : decode cX11_init 116 = .ok (.bipush 20, 2) := by decide +kernel
theorem dX11_init_118 : decode cX11_init 118 = .ok (.newarray .int, 2) := by decide +kernel
theorem dX11_init_120 : decode cX11_init 120 = .ok (.putfield 53, 3) := by decide +kernel
theorem dX11_init_123 : decode cX11_init 123 = .ok (.aload_n 0, 1) := by decide +kernel
theorem dX11_init_124 : decode cX11_init 124 = .ok (.bipush 20, 2) := by decide +kernel
theorem dX11_init_126 : decode cX11_init 126 = .ok (.newarray .int, 2) := by decide +kernel
theorem dX11_init_128 : decode cX11_init 128 = .ok (.putfield 56, 3) := by decide +kernel
theorem dX11_init_131 : decode cX11_init 131 = .ok (.aload_n 0, 1) := by decide +kernel
theorem dX11_init_132 : decode cX11_init 132 = .ok (.bipush 20, 2) := by decide +kernel
theorem dX11_init_134 : decode cX11_init 134 = .ok (.newarray .int, 2) := by decide +kernel
theorem dX11_init_136 : decode cX11_init 136 = .ok (.putfield 59, 3) := by decide +kernel
theorem dX11_init_139 : decode cX11_init 139 = .ok (.aload_n 0, 1) := by decide +kernel
theorem dX11_init_140 : decode cX11_init 140 = .ok (.bipush 20, 2) := by decide +kernel
theorem dX11_init_142 : decode cX11_init 142 = .ok (.newarray .int, 2) := by decide +kernel
theorem dX11_init_144 : decode cX11_init 144 = .ok (.putfield 62, 3) := by decide +kernel
theorem dX11_init_147 : decode cX11_init 147 = .ok (.aload_n 0, 1) := by decide +kernel
theorem dX11_init_148 : decode cX11_init 148 = .ok (.bipush 12, 2) := by decide +kernel
theorem dX11_init_150 : decode cX11_init 150 = .ok (.newarray .long, 2) := by decide +kernel
theorem dX11_init_152 : decode cX11_init 152 = .ok (.putfield 65, 3) := by decide +kernel
theorem dX11_init_155 : decode cX11_init 155 = .ok (.aload_n 0, 1) := by decide +kernel
theorem dX11_init_156 : decode cX11_init 156 = .ok (.bipush 24, 2) := by decide +kernel
theorem dX11_init_158 : decode cX11_init 158 = .ok (.newarray .boolean, 2) := by decide +kernel
theorem dX11_init_160 : decode cX11_init 160 = .ok (.putfield 69, 3) := by decide +kernel
theorem dX11_init_163 : decode cX11_init 163 = .ok (.aload_n 0, 1) := by decide +kernel
theorem dX11_init_164 : decode cX11_init 164 = .ok (.bipush 11, 2) := by decide +kernel
theorem dX11_init_166 : decode cX11_init 166 = .ok (.newarray .int, 2) := by decide +kernel
theorem dX11_init_168 : decode cX11_init 168 = .ok (.putfield 72, 3) := by decide +kernel
theorem dX11_init_171 : decode cX11_init 171 = .ok (.aload_n 0, 1) := by decide +kernel
theorem dX11_init_172 : decode cX11_init 172 = .ok (.bipush 25, 2) := by decide +kernel
theorem dX11_init_174 : decode cX11_init 174 = .ok (.newarray .int, 2) := by decide +kernel
theorem dX11_init_176 : decode cX11_init 176 = .ok (.putfield 75, 3) := by decide +kernel
theorem dX11_init_179 : decode cX11_init 179 = .ok (.aload_n 0, 1) := by decide +kernel
theorem dX11_init_180 : decode cX11_init 180 = .ok (.bipush 25, 2) := by decide +kernel
theorem dX11_init_182 : decode cX11_init 182 = .ok (.newarray .int, 2) := by decide +kernel
theorem dX11_init_184 : decode cX11_init 184 = .ok (.putfield 78, 3) := by decide +kernel
theorem dX11_init_187 : decode cX11_init 187 = .ok (.aload_n 0, 1) := by decide +kernel
theorem dX11_init_188 : decode cX11_init 188 = .ok (.sipush 1024, 3) := by decide +kernel
theorem dX11_init_191 : decode cX11_init 191 = .ok (.newarray .boolean, 2) := by decide +kernel
theorem dX11_init_193 : decode cX11_init 193 = .ok (.putfield 81, 3) := by decide +kernel
theorem dX11_init_196 : decode cX11_init 196 = .ok (.aload_n 0, 1) := by decide +kernel
theorem dX11_init_197 : decode cX11_init 197 = .ok (.bipush 24, 2) := by decide +kernel
theorem dX11_init_199 : decode cX11_init 199 = .ok (.newarray .int, 2) := by decide +kernel
theorem dX11_init_201 : decode cX11_init 201 = .ok (.putfield 84, 3) := by decide +kernel
theorem dX11_init_204 : decode cX11_init 204 = .ok (.aload_n 0, 1) := by decide +kernel
theorem dX11_init_205 : decode cX11_init 205 = .ok (.bipush 80, 2) := by decide +kernel
theorem dX11_init_207 : decode cX11_init 207 = .ok (.newarray .long, 2) := by decide +kernel
theorem dX11_init_209 : decode cX11_init 209 = .ok (.putfield 87, 3) := by decide +kernel
theorem dX11_init_212 : decode cX11_init 212 = .ok (.iconst 0, 1) := by decide +kernel
theorem dX11_init_213 : decode cX11_init 213 = .ok (.istore_n 1, 1) := by decide +kernel
theorem dX11_init_214 : decode cX11_init 214 = .ok (.iload_n 1, 1) := by decide +kernel
theorem dX11_init_215 : decode cX11_init 215 = .ok (.iconst 4, 1) := by decide +kernel
theorem dX11_init_216 : decode cX11_init 216 = .ok (.if_icmp .ge 16, 3) := by decide +kernel
theorem dX11_init_219 : decode cX11_init 219 = .ok (.aload_n 0, 1) := by decide +kernel
theorem dX11_init_220 : decode cX11_init 220 = .ok (.getfield 47, 3) := by decide +kernel
theorem dX11_init_223 : decode cX11_init 223 = .ok (.iload_n 1, 1) := by decide +kernel
theorem dX11_init_224 : decode cX11_init 224 = .ok (.iconst (-1), 1) := by decide +kernel
theorem dX11_init_225 : decode cX11_init 225 = .ok (.iastore, 1) := by decide +kernel
theorem dX11_init_226 : decode cX11_init 226 = .ok (.iinc 1 1, 3) := by decide +kernel
theorem dX11_init_229 : decode cX11_init 229 = .ok (.goto (-15), 3) := by decide +kernel
theorem dX11_init_232 : decode cX11_init 232 = .ok (.return_, 1) := by decide +kernel
theorem dX11_isIn_0 : decode cX11_isIn 0 = .ok (.lload_n 0, 1) := by decide +kernel
theorem dX11_isIn_1 : decode cX11_isIn 1 = .ok (.lload_n 2, 1) := by decide +kernel
theorem dX11_isIn_2 : decode cX11_isIn 2 = .ok (.lcmp, 1) := by decide +kernel
theorem dX11_isIn_3 : decode cX11_isIn 3 = .ok (.ifCond .lt 14, 3) := by decide +kernel
theorem dX11_isIn_6 : decode cX11_isIn 6 = .ok (.lload_n 0, 1) := by decide +kernel
theorem dX11_isIn_7 : decode cX11_isIn 7 = .ok (.lload 4, 2) := by decide +kernel
theorem dX11_isIn_9 : decode cX11_isIn 9 = .ok (.lcmp, 1) := by decide +kernel
theorem dX11_isIn_10 : decode cX11_isIn 10 = .ok (.ifCond .gt 7, 3) := by decide +kernel
theorem dX11_isIn_13 : decode cX11_isIn 13 = .ok (.iconst 1, 1) := by decide +kernel
theorem dX11_isIn_14 : decode cX11_isIn 14 = .ok (.goto 4, 3) := by decide +kernel
theorem dX11_isIn_17 : decode cX11_isIn 17 = .ok (.iconst 0, 1) := by decide +kernel
theorem dX11_isIn_18 : decode cX11_isIn 18 = .ok (.ireturn, 1) := by decide +kernel
theorem dX11_common_0 : decode cX11_common 0 = .ok (.lload_n 0, 1) := by decide +kernel
theorem dX11_common_1 : decode cX11_common 1 = .ok (.lconst 0, 1) := by decide +kernel
theorem dX11_common_2 : decode cX11_common 2 = .ok (.lcmp, 1) := by decide +kernel
theorem dX11_common_3 : decode cX11_common 3 = .ok (.ifCond .ge 8, 3) := by decide +kernel
theorem dX11_common_6 : decode cX11_common 6 = .ok (.lload_n 0, 1) := by decide +kernel
theorem dX11_common_7 : decode cX11_common 7 = .ok (.lneg, 1) := by decide +kernel
theorem dX11_common_8 : decode cX11_common 8 = .ok (.goto 4, 3) := by decide +kernel
theorem dX11_common_11 : decode cX11_common 11 = .ok (.lload_n 0, 1) := by decide +kernel
theorem dX11_common_12 : decode cX11_common 12 = .ok (.lstore 4, 2) := by decide +kernel
theorem dX11_common_14 : decode cX11_common 14 = .ok (.lload_n 2, 1) := by decide +kernel
theorem dX11_common_15 : decode cX11_common 15 = .ok (.lconst 0, 1) := by decide +kernel
theorem dX11_common_16 : decode cX11_common 16 = .ok (.lcmp, 1) := by decide +kernel
theorem dX11_common_17 : decode cX11_common 17 = .ok (.ifCond .ge 8, 3) := by decide +kernel
theorem dX11_common_20 : decode cX11_common 20 = .ok (.lload_n 2, 1) := by decide +kernel
theorem dX11_common_21 : decode cX11_common 21 = .ok (.lneg, 1) := by decide +kernel
theorem dX11_common_22 : decode cX11_common 22 = .ok (.goto 4, 3) := by decide +kernel
theorem dX11_common_25 : decode cX11_common 25 = .ok (.lload_n 2, 1) := by decide +kernel
theorem dX11_common_26 : decode cX11_common 26 = .ok (.lstore 6, 2) := by decide +kernel
theorem dX11_common_28 : decode cX11_common 28 = .ok (.lload 6, 2) := by decide +kernel
theorem dX11_common_30 : decode cX11_common 30 = .ok (.lconst 0, 1) := by decide +kernel
theorem dX11_common_31 : decode cX11_common 31 = .ok (.lcmp, 1) := by decide +kernel
theorem dX11_common_32 : decode cX11_common 32 = .ok (.ifCond .eq 21, 3) := by decide +kernel
theorem dX11_common_35 : decode cX11_common 35 = .ok (.lload 4, 2) := by decide +kernel
theorem dX11_common_37 : decode cX11_common 37 = .ok (.lload 6, 2) := by decide +kernel
theorem dX11_common_39 : decode cX11_common 39 = .ok (.lrem, 1) := by decide +kernel
theorem dX11_common_40 : decode cX11_common 40 = .ok (.lstore 8, 2) := by decide +kernel
theorem dX11_common_42 : decode cX11_common 42 = .ok (.lload 6, 2) := by decide +kernel
theorem dX11_common_44 : decode cX11_common 44 = .ok (.lstore 4, 2) := by decide +kernel
theorem dX11_common_46 : decode cX11_common 46 = .ok (.lload 8, 2) := by decide +kernel
theorem dX11_common_48 : decode cX11_common 48 = .ok (.lstore 6, 2) := by decide +kernel
theorem dX11_common_50 : decode cX11_common 50 = .ok (.goto (-22), 3) := by decide +kernel
theorem dX11_common_53 : decode cX11_common 53 = .ok (.lload 4, 2) := by decide +kernel
theorem dX11_common_55 : decode cX11_common 55 = .ok (.lreturn, 1) := by decide +kernel
theorem dX11_set_0 : decode cX11_set 0 = .ok (.lload_n 1, 1) := by decide +kernel
theorem dX11_set_1 : decode cX11_set 1 = .ok (.lload_n 3, 1) := by decide +kernel
theorem dX11_set_2 : decode cX11_set 2 = .ok (.invokestatic 90, 3) := by decide +kernel
theorem dX11_set_5 : decode cX11_set 5 = .ok (.lstore 5, 2) := by decide +kernel
theorem dX11_set_7 : decode cX11_set 7 = .ok (.aload_n 0, 1) := by decide +kernel
theorem dX11_set_8 : decode cX11_set 8 = .ok (.lload_n 1, 1) := by decide +kernel
theorem dX11_set_9 : decode cX11_set 9 = .ok (.lload 5, 2) := by decide +kernel
theorem dX11_set_11 : decode cX11_set 11 = .ok (.ldiv, 1) := by decide +kernel
theorem dX11_set_12 : decode cX11_set 12 = .ok (.putfield 94, 3) := by decide +kernel
theorem dX11_set_15 : decode cX11_set 15 = .ok (.aload_n 0, 1) := by decide +kernel
theorem dX11_set_16 : decode cX11_set 16 = .ok (.lload_n 3, 1) := by decide +kernel
theorem dX11_set_17 : decode cX11_set 17 = .ok (.lload 5, 2) := by decide +kernel
theorem dX11_set_19 : decode cX11_set 19 = .ok (.ldiv, 1) := by decide +kernel
theorem dX11_set_20 : decode cX11_set 20 = .ok (.putfield 98, 3) := by decide +kernel
theorem dX11_set_23 : decode cX11_set 23 = .ok (.return_, 1) := by decide +kernel
theorem dX11_below_0 : decode cX11_below 0 = .ok (.lload_n 1, 1) := by decide +kernel
theorem dX11_below_1 : decode cX11_below 1 = .ok (.lconst 0, 1) := by decide +kernel
theorem dX11_below_2 : decode cX11_below 2 = .ok (.lcmp, 1) := by decide +kernel
theorem dX11_below_3 : decode cX11_below 3 = .ok (.ifCond .ge 8, 3) := by decide +kernel
theorem dX11_below_6 : decode cX11_below 6 = .ok (.lload_n 1, 1) := by decide +kernel
theorem dX11_below_7 : decode cX11_below 7 = .ok (.lneg, 1) := by decide +kernel
theorem dX11_below_8 : decode cX11_below 8 = .ok (.goto 4, 3) := by decide +kernel
theorem dX11_below_11 : decode cX11_below 11 = .ok (.lload_n 1, 1) := by decide +kernel
theorem dX11_below_12 : decode cX11_below 12 = .ok (.lstore 5, 2) := by decide +kernel
theorem dX11_below_14 : decode cX11_below 14 = .ok (.lload_n 3, 1) := by decide +kernel
theorem dX11_below_15 : decode cX11_below 15 = .ok (.lconst 0, 1) := by decide +kernel
theorem dX11_below_16 : decode cX11_below 16 = .ok (.lcmp, 1) := by decide +kernel
theorem dX11_below_17 : decode cX11_below 17 = .ok (.ifCond .ge 8, 3) := by decide +kernel
theorem dX11_below_20 : decode cX11_below 20 = .ok (.lload_n 3, 1) := by decide +kernel
theorem dX11_below_21 : decode cX11_below 21 = .ok (.lneg, 1) := by decide +kernel
theorem dX11_below_22 : decode cX11_below 22 = .ok (.goto 4, 3) := by decide +kernel
theorem dX11_below_25 : decode cX11_below 25 = .ok (.lload_n 3, 1) := by decide +kernel
theorem dX11_below_26 : decode cX11_below 26 = .ok (.lstore 7, 2) := by decide +kernel
theorem dX11_below_28 : decode cX11_below 28 = .ok (.lload 5, 2) := by decide +kernel
theorem dX11_below_30 : decode cX11_below 30 = .ok (.lconst 0, 1) := by decide +kernel
theorem dX11_below_31 : decode cX11_below 31 = .ok (.lcmp, 1) := by decide +kernel
theorem dX11_below_32 : decode cX11_below 32 = .ok (.ifCond .eq 22, 3) := by decide +kernel
theorem dX11_below_35 : decode cX11_below 35 = .ok (.lload 7, 2) := by decide +kernel
theorem dX11_below_37 : decode cX11_below 37 = .ok (.ldc2_w 101, 3) := by decide +kernel
theorem dX11_below_40 : decode cX11_below 40 = .ok (.lload 5, 2) := by decide +kernel
theorem dX11_below_42 : decode cX11_below 42 = .ok (.ldiv, 1) := by decide +kernel
theorem dX11_below_43 : decode cX11_below 43 = .ok (.lcmp, 1) := by decide +kernel
theorem dX11_below_44 : decode cX11_below 44 = .ok (.ifCond .le 10, 3) := by decide +kernel
theorem dX11_below_47 : decode cX11_below 47 = .ok (.aload_n 0, 1) := by decide +kernel
theorem dX11_below_48 : decode cX11_below 48 = .ok (.iconst 1, 1) := by decide +kernel
theorem dX11_below_49 : decode cX11_below 49 = .ok (.putfield 103, 3) := by decide +kernel
theorem dX11_below_52 : decode cX11_below 52 = .ok (.lconst 1, 1) := by decide +kernel
theorem dX11_below_53 : decode cX11_below 53 = .ok (.lreturn, 1) := by decide +kernel
theorem dX11_below_54 : decode cX11_below 54 = .ok (.lload_n 1, 1) := by decide +kernel
theorem dX11_below_55 : decode cX11_below 55 = .ok (.lload_n 3, 1) := by decide +kernel
theorem dX11_below_56 : decode cX11_below 56 = .ok (.lmul, 1) := by decide +kernel
theorem dX11_below_57 : decode cX11_below 57 = .ok (.lreturn, 1) := by decide +kernel
theorem dX11_times_0 : decode cX11_times 0 = .ok (.aload_n 0, 1) := by decide +kernel
theorem dX11_times_1 : decode cX11_times 1 = .ok (.getfield 94, 3) := by decide +kernel
theorem dX11_times_4 : decode cX11_times 4 = .ok (.lload_n 3, 1) := by decide +kernel
theorem dX11_times_5 : decode cX11_times 5 = .ok (.invokestatic 90, 3) := by decide +kernel
theorem dX11_times_8 : decode cX11_times 8 = .ok (.lstore 5, 2) := by decide +kernel
theorem dX11_times_10 : decode cX11_times 10 = .ok (.lload_n 1, 1) := by decide +kernel
theorem dX11_times_11 : decode cX11_times 11 = .ok (.aload_n 0, 1) := by decide +kernel
theorem dX11_times_12 : decode cX11_times 12 = .ok (.getfield 98, 3) := by decide +kernel
theorem dX11_times_15 : decode cX11_times 15 = .ok (.invokestatic 90, 3) := by decide +kernel
theorem dX11_times_18 : decode cX11_times 18 = .ok (.lstore 7, 2) := by decide +kernel
theorem dX11_times_20 : decode cX11_times 20 = .ok (.aload_n 0, 1) := by decide +kernel
theorem dX11_times_21 : decode cX11_times 21 = .ok (.getfield 94, 3) := by decide +kernel
theorem dX11_times_24 : decode cX11_times 24 = .ok (.lload 5, 2) := by decide +kernel
theorem dX11_times_26 : decode cX11_times 26 = .ok (.ldiv, 1) := by decide +kernel
theorem dX11_times_27 : decode cX11_times 27 = .ok (.lstore 9, 2) := by decide +kernel
theorem dX11_times_29 : decode cX11_times 29 = .ok (.aload_n 0, 1) := by decide +kernel
theorem dX11_times_30 : decode cX11_times 30 = .ok (.getfield 98, 3) := by decide +kernel
theorem dX11_times_33 : decode cX11_times 33 = .ok (.lload 7, 2) := by decide +kernel
theorem dX11_times_35 : decode cX11_times 35 = .ok (.ldiv, 1) := by decide +kernel
theorem dX11_times_36 : decode cX11_times 36 = .ok (.lstore 11, 2) := by decide +kernel
theorem dX11_times_38 : decode cX11_times 38 = .ok (.aload_n 0, 1) := by decide +kernel
theorem dX11_times_39 : decode cX11_times 39 = .ok (.aload_n 0, 1) := by decide +kernel
theorem dX11_times_40 : decode cX11_times 40 = .ok (.lload 9, 2) := by decide +kernel
theorem dX11_times_42 : decode cX11_times 42 = .ok (.lload_n 1, 1) := by decide +kernel
theorem dX11_times_43 : decode cX11_times 43 = .ok (.lload 7, 2) := by decide +kernel
theorem dX11_times_45 : decode cX11_times 45 = .ok (.ldiv, 1) := by decide +kernel
theorem dX11_times_46 : decode cX11_times 46 = .ok (.invokevirtual 107, 3) := by decide +kernel
theorem dX11_times_49 : decode cX11_times 49 = .ok (.putfield 94, 3) := by decide +kernel
theorem dX11_times_52 : decode cX11_times 52 = .ok (.aload_n 0, 1) := by decide +kernel
theorem dX11_times_53 : decode cX11_times 53 = .ok (.aload_n 0, 1) := by decide +kernel
theorem dX11_times_54 : decode cX11_times 54 = .ok (.lload 11, 2) := by decide +kernel
theorem dX11_times_56 : decode cX11_times 56 = .ok (.lload_n 3, 1) := by decide +kernel
theorem dX11_times_57 : decode cX11_times 57 = .ok (.lload 5, 2) := by decide +kernel
theorem dX11_times_59 : decode cX11_times 59 = .ok (.ldiv, 1) := by decide +kernel
theorem dX11_times_60 : decode cX11_times 60 = .ok (.invokevirtual 107, 3) := by decide +kernel
theorem dX11_times_63 : decode cX11_times 63 = .ok (.putfield 98, 3) := by decide +kernel
theorem dX11_times_66 : decode cX11_times 66 = .ok (.return_, 1) := by decide +kernel
theorem dX11_multiply_0 : decode cX11_multiply 0 = .ok (.lload_n 1, 1) := by decide +kernel
theorem dX11_multiply_1 : decode cX11_multiply 1 = .ok (.ldc2_w 110, 3) := by decide +kernel
theorem dX11_multiply_4 : decode cX11_multiply 4 = .ok (.ldiv, 1) := by decide +kernel
theorem dX11_multiply_5 : decode cX11_multiply 5 = .ok (.lstore 5, 2) := by decide +kernel
theorem dX11_multiply_7 : decode cX11_multiply 7 = .ok (.lload_n 1, 1) := by decide +kernel
theorem dX11_multiply_8 : decode cX11_multiply 8 = .ok (.ldc2_w 110, 3) := by decide +kernel
theorem dX11_multiply_11 : decode cX11_multiply 11 = .ok (.lrem, 1) := by decide +kernel
theorem dX11_multiply_12 : decode cX11_multiply 12 = .ok (.lstore 7, 2) := by decide +kernel
theorem dX11_multiply_14 : decode cX11_multiply 14 = .ok (.lload_n 3, 1) := by decide +kernel
theorem dX11_multiply_15 : decode cX11_multiply 15 = .ok (.ldc2_w 110, 3) := by decide +kernel
theorem dX11_multiply_18 : decode cX11_multiply 18 = .ok (.ldiv, 1) := by decide +kernel
theorem dX11_multiply_19 : decode cX11_multiply 19 = .ok (.lstore 9, 2) := by decide +kernel
theorem dX11_multiply_21 : decode cX11_multiply 21 = .ok (.lload_n 3, 1) := by decide +kernel
theorem dX11_multiply_22 : decode cX11_multiply 22 = .ok (.ldc2_w 110, 3) := by decide +kernel
theorem dX11_multiply_25 : decode cX11_multiply 25 = .ok (.lrem, 1) := by decide +kernel
theorem dX11_multiply_26 : decode cX11_multiply 26 = .ok (.lstore 11, 2) := by decide +kernel
theorem dX11_multiply_28 : decode cX11_multiply 28 = .ok (.lload 5, 2) := by decide +kernel
theorem dX11_multiply_30 : decode cX11_multiply 30 = .ok (.lload 11, 2) := by decide +kernel
theorem dX11_multiply_32 : decode cX11_multiply 32 = .ok (.lmul, 1) := by decide +kernel
theorem dX11_multiply_33 : decode cX11_multiply 33 = .ok (.lload 7, 2) := by decide +kernel
theorem dX11_multiply_35 : decode cX11_multiply 35 = .ok (.lload 9, 2) := by decide +kernel
theorem dX11_multiply_37 : decode cX11_multiply 37 = .ok (.lmul, 1) := by decide +kernel
theorem dX11_multiply_38 : decode cX11_multiply 38 = .ok (.ladd, 1) := by decide +kernel
theorem dX11_multiply_39 : decode cX11_multiply 39 = .ok (.lstore 13, 2) := by decide +kernel
theorem dX11_multiply_41 : decode cX11_multiply 41 = .ok (.lload 7, 2) := by decide +kernel
theorem dX11_multiply_43 : decode cX11_multiply 43 = .ok (.lload 11, 2) := by decide +kernel
theorem dX11_multiply_45 : decode cX11_multiply 45 = .ok (.lmul, 1) := by decide +kernel
theorem dX11_multiply_46 : decode cX11_multiply 46 = .ok (.lstore 15, 2) := by decide +kernel
theorem dX11_multiply_48 : decode cX11_multiply 48 = .ok (.aload_n 0, 1) := by decide +kernel
theorem dX11_multiply_49 : decode cX11_multiply 49 = .ok (.lload 5, 2) := by decide +kernel
theorem dX11_multiply_51 : decode cX11_multiply 51 = .ok (.lload 9, 2) := by decide +kernel
theorem dX11_multiply_53 : decode cX11_multiply 53 = .ok (.lmul, 1) := by decide +kernel
theorem dX11_multiply_54 : decode cX11_multiply 54 = .ok (.ldc2_w 112, 3) := by decide +kernel
theorem dX11_multiply_57 : decode cX11_multiply 57 = .ok (.lmul, 1) := by decide +kernel
theorem dX11_multiply_58 : decode cX11_multiply 58 = .ok (.lload 13, 2) := by decide +kernel
theorem dX11_multiply_60 : decode cX11_multiply 60 = .ok (.ldc2_w 114, 3) := by decide +kernel
theorem dX11_multiply_63 : decode cX11_multiply 63 = .ok (.ldiv, 1) := by decide +kernel
theorem dX11_multiply_64 : decode cX11_multiply 64 = .ok (.ladd, 1) := by decide +kernel
theorem dX11_multiply_65 : decode cX11_multiply 65 = .ok (.lload 15, 2) := by decide +kernel
theorem dX11_multiply_67 : decode cX11_multiply 67 = .ok (.ldc2_w 116, 3) := by decide +kernel
theorem dX11_multiply_70 : decode cX11_multiply 70 = .ok (.ldiv, 1) := by decide +kernel
theorem dX11_multiply_71 : decode cX11_multiply 71 = .ok (.ladd, 1) := by decide +kernel
theorem dX11_multiply_72 : decode cX11_multiply 72 = .ok (.putfield 118, 3) := by decide +kernel
theorem dX11_multiply_75 : decode cX11_multiply 75 = .ok (.aload_n 0, 1) := by decide +kernel
theorem dX11_multiply_76 : decode cX11_multiply 76 = .ok (.lload 13, 2) := by decide +kernel
theorem dX11_multiply_78 : decode cX11_multiply 78 = .ok (.ldc2_w 114, 3) := by decide +kernel
theorem dX11_multiply_81 : decode cX11_multiply 81 = .ok (.lrem, 1) := by decide +kernel
theorem dX11_multiply_82 : decode cX11_multiply 82 = .ok (.ldc2_w 110, 3) := by decide +kernel
theorem dX11_multiply_85 : decode cX11_multiply 85 = .ok (.lmul, 1) := by decide +kernel
theorem dX11_multiply_86 : decode cX11_multiply 86 = .ok (.lload 15, 2) := by decide +kernel
theorem dX11_multiply_88 : decode cX11_multiply 88 = .ok (.ldc2_w 116, 3) := by decide +kernel
theorem dX11_multiply_91 : decode cX11_multiply 91 = .ok (.lrem, 1) := by decide +kernel
theorem dX11_multiply_92 : decode cX11_multiply 92 = .ok (.ladd, 1) := by decide +kernel
theorem dX11_multiply_93 : decode cX11_multiply 93 = .ok (.putfield 121, 3) := by decide +kernel
theorem dX11_multiply_96 : decode cX11_multiply 96 = .ok (.aload_n 0, 1) := by decide +kernel
theorem dX11_multiply_97 : decode cX11_multiply 97 = .ok (.getfield 121, 3) := by decide +kernel
theorem dX11_multiply_100 : decode cX11_multiply 100 = .ok (.ldc2_w 116, 3) := by decide +kernel
theorem dX11_multiply_103 : decode cX11_multiply 103 = .ok (.lcmp, 1) := by decide +kernel
theorem dX11_multiply_104 : decode cX11_multiply 104 = .ok (.ifCond .lt 25, 3) := by decide +kernel
theorem dX11_multiply_107 : decode cX11_multiply 107 = .ok (.aload_n 0, 1) := by decide +kernel
theorem dX11_multiply_108 : decode cX11_multiply 108 = .ok (.dup, 1) := by decide +kernel
theorem dX11_multiply_109 : decode cX11_multiply 109 = .ok (.getfield 121, 3) := by decide +kernel
theorem dX11_multiply_112 : decode cX11_multiply 112 = .ok (.ldc2_w 116, 3) := by decide +kernel
theorem dX11_multiply_115 : decode cX11_multiply 115 = .ok (.lsub, 1) := by decide +kernel
theorem dX11_multiply_116 : decode cX11_multiply 116 = .ok (.putfield 121, 3) := by decide +kernel
theorem dX11_multiply_119 : decode cX11_multiply 119 = .ok (.aload_n 0, 1) := by decide +kernel
theorem dX11_multiply_120 : decode cX11_multiply 120 = .ok (.dup, 1) := by decide +kernel
theorem dX11_multiply_121 : decode cX11_multiply 121 = .ok (.getfield 118, 3) := by decide +kernel
theorem dX11_multiply_124 : decode cX11_multiply 124 = .ok (.lconst 1, 1) := by decide +kernel
theorem dX11_multiply_125 : decode cX11_multiply 125 = .ok (.ladd, 1) := by decide +kernel
theorem dX11_multiply_126 : decode cX11_multiply 126 = .ok (.putfield 118, 3) := by decide +kernel
theorem dX11_multiply_129 : decode cX11_multiply 129 = .ok (.return_, 1) := by decide +kernel
theorem dX11_spell_0 : decode cX11_spell 0 = .ok (.lload_n 3, 1) := by decide +kernel
theorem dX11_spell_1 : decode cX11_spell 1 = .ok (.lstore 5, 2) := by decide +kernel
theorem dX11_spell_3 : decode cX11_spell 3 = .ok (.iconst 0, 1) := by decide +kernel
theorem dX11_spell_4 : decode cX11_spell 4 = .ok (.istore 7, 2) := by decide +kernel
theorem dX11_spell_6 : decode cX11_spell 6 = .ok (.iload 7, 2) := by decide +kernel
theorem dX11_spell_8 : decode cX11_spell 8 = .ok (.iconst 5, 1) := by decide +kernel
theorem dX11_spell_9 : decode cX11_spell 9 = .ok (.if_icmp .ge 30, 3) := by decide +kernel
