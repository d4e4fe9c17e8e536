theorem dX7_turnsBest_8 : decode cX7_turnsBest 8 = .ok (.istore 4, 2) := by decide +kernel
theorem dX7_turnsBest_10 : decode cX7_turnsBest 10 = .ok (.iload 4, 2) := by decide +kernel
theorem dX7_turnsBest_12 : decode cX7_turnsBest 12 = .ok (.bipush 64, 2) := by decide +kernel
theorem dX7_turnsBest_14 : decode cX7_turnsBest 14 = .ok (.if_icmp .ge 51, 3) := by decide +kernel
theorem dX7_turnsBest_17 : decode cX7_turnsBest 17 = .ok (.iload 4, 2) := by decide +kernel
theorem dX7_turnsBest_19 : decode cX7_turnsBest 19 = .ok (.aload_n 0, 1) := by decide +kernel
theorem dX7_turnsBest_20 : decode cX7_turnsBest 20 = .ok (.getfield 7, 3) := by decide +kernel
theorem dX7_turnsBest_23 : decode cX7_turnsBest 23 = .ok (.iconst 1, 1) := by decide +kernel
theorem dX7_turnsBest_24 : decode cX7_turnsBest 24 = .ok (.iaload, 1) := by decide +kernel
theorem dX7_turnsBest_25 : decode cX7_turnsBest 25 = .ok (.ixor, 1) := by decide +kernel
theorem dX7_turnsBest_26 : decode cX7_turnsBest 26 = .ok (.invokestatic 224, 3) := by decide +kernel
theorem dX7_turnsBest_29 : decode cX7_turnsBest 29 = .ok (.istore 5, 2) := by decide +kernel
theorem dX7_turnsBest_31 : decode cX7_turnsBest 31 = .ok (.lload_n 1, 1) := by decide +kernel
theorem dX7_turnsBest_32 : decode cX7_turnsBest 32 = .ok (.iload 4, 2) := by decide +kernel
theorem dX7_turnsBest_34 : decode cX7_turnsBest 34 = .ok (.lushr, 1) := by decide +kernel
theorem dX7_turnsBest_35 : decode cX7_turnsBest 35 = .ok (.lconst 1, 1) := by decide +kernel
theorem dX7_turnsBest_36 : decode cX7_turnsBest 36 = .ok (.land, 1) := by decide +kernel
theorem dX7_turnsBest_37 : decode cX7_turnsBest 37 = .ok (.lconst 1, 1) := by decide +kernel
theorem dX7_turnsBest_38 : decode cX7_turnsBest 38 = .ok (.lcmp, 1) := by decide +kernel
theorem dX7_turnsBest_39 : decode cX7_turnsBest 39 = .ok (.ifCond .ne 18, 3) := by decide +kernel
theorem dX7_turnsBest_42 : decode cX7_turnsBest 42 = .ok (.iload_n 3, 1) := by decide +kernel
theorem dX7_turnsBest_43 : decode cX7_turnsBest 43 = .ok (.ifCond .lt 9, 3) := by decide +kernel
theorem dX7_turnsBest_46 : decode cX7_turnsBest 46 = .ok (.iload 5, 2) := by decide +kernel
theorem dX7_turnsBest_48 : decode cX7_turnsBest 48 = .ok (.iload_n 3, 1) := by decide +kernel
theorem dX7_turnsBest_49 : decode cX7_turnsBest 49 = .ok (.if_icmp .ge 8, 3) := by decide +kernel
theorem dX7_turnsBest_52 : decode cX7_turnsBest 52 = .ok (.iload 5, 2) := by decide +kernel
theorem dX7_turnsBest_54 : decode cX7_turnsBest 54 = .ok (.goto 4, 3) := by decide +kernel
theorem dX7_turnsBest_57 : decode cX7_turnsBest 57 = .ok (.iload_n 3, 1) := by decide +kernel
theorem dX7_turnsBest_58 : decode cX7_turnsBest 58 = .ok (.istore_n 3, 1) := by decide +kernel
theorem dX7_turnsBest_59 : decode cX7_turnsBest 59 = .ok (.iinc 4 1, 3) := by decide +kernel
theorem dX7_turnsBest_62 : decode cX7_turnsBest 62 = .ok (.goto (-52), 3) := by decide +kernel
theorem dX7_turnsBest_65 : decode cX7_turnsBest 65 = .ok (.iload_n 3, 1) := by decide +kernel
theorem dX7_turnsBest_66 : decode cX7_turnsBest 66 = .ok (.ireturn, 1) := by decide +kernel
theorem dX7_turnsToPeace_0 : decode cX7_turnsToPeace 0 = .ok (.aload_n 0, 1) := by decide +kernel
theorem dX7_turnsToPeace_1 : decode cX7_turnsToPeace 1 = .ok (.iconst 0, 1) := by decide +kernel
theorem dX7_turnsToPeace_2 : decode cX7_turnsToPeace 2 = .ok (.putfield 31, 3) := by decide +kernel
theorem dX7_turnsToPeace_5 : decode cX7_turnsToPeace 5 = .ok (.aload_n 0, 1) := by decide +kernel
theorem dX7_turnsToPeace_6 : decode cX7_turnsToPeace 6 = .ok (.invokevirtual 248, 3) := by decide +kernel
theorem dX7_turnsToPeace_9 : decode cX7_turnsToPeace 9 = .ok (.ireturn, 1) := by decide +kernel
theorem dX7_turnsGoing_0 : decode cX7_turnsGoing 0 = .ok (.iconst (-1), 1) := by decide +kernel
theorem dX7_turnsGoing_1 : decode cX7_turnsGoing 1 = .ok (.istore_n 1, 1) := by decide +kernel
theorem dX7_turnsGoing_2 : decode cX7_turnsGoing 2 = .ok (.iconst 0, 1) := by decide +kernel
theorem dX7_turnsGoing_3 : decode cX7_turnsGoing 3 = .ok (.istore_n 2, 1) := by decide +kernel
theorem dX7_turnsGoing_4 : decode cX7_turnsGoing 4 = .ok (.iload_n 2, 1) := by decide +kernel
theorem dX7_turnsGoing_5 : decode cX7_turnsGoing 5 = .ok (.bipush 6, 2) := by decide +kernel
theorem dX7_turnsGoing_7 : decode cX7_turnsGoing 7 = .ok (.if_icmp .gt 56, 3) := by decide +kernel
theorem dX7_turnsGoing_10 : decode cX7_turnsGoing 10 = .ok (.iload_n 1, 1) := by decide +kernel
theorem dX7_turnsGoing_11 : decode cX7_turnsGoing 11 = .ok (.ifCond .ge 52, 3) := by decide +kernel
theorem dX7_turnsGoing_14 : decode cX7_turnsGoing 14 = .ok (.iconst 0, 1) := by decide +kernel
theorem dX7_turnsGoing_15 : decode cX7_turnsGoing 15 = .ok (.istore_n 3, 1) := by decide +kernel
theorem dX7_turnsGoing_16 : decode cX7_turnsGoing 16 = .ok (.iload_n 3, 1) := by decide +kernel
theorem dX7_turnsGoing_17 : decode cX7_turnsGoing 17 = .ok (.bipush 64, 2) := by decide +kernel
theorem dX7_turnsGoing_19 : decode cX7_turnsGoing 19 = .ok (.if_icmp .ge 38, 3) := by decide +kernel
theorem dX7_turnsGoing_22 : decode cX7_turnsGoing 22 = .ok (.iload_n 3, 1) := by decide +kernel
theorem dX7_turnsGoing_23 : decode cX7_turnsGoing 23 = .ok (.aload_n 0, 1) := by decide +kernel
theorem dX7_turnsGoing_24 : decode cX7_turnsGoing 24 = .ok (.getfield 7, 3) := by decide +kernel
theorem dX7_turnsGoing_27 : decode cX7_turnsGoing 27 = .ok (.iconst 1, 1) := by decide +kernel
theorem dX7_turnsGoing_28 : decode cX7_turnsGoing 28 = .ok (.iaload, 1) := by decide +kernel
theorem dX7_turnsGoing_29 : decode cX7_turnsGoing 29 = .ok (.ixor, 1) := by decide +kernel
theorem dX7_turnsGoing_30 : decode cX7_turnsGoing 30 = .ok (.invokestatic 224, 3) := by decide +kernel
theorem dX7_turnsGoing_33 : decode cX7_turnsGoing 33 = .ok (.iload_n 2, 1) := by decide +kernel
theorem dX7_turnsGoing_34 : decode cX7_turnsGoing 34 = .ok (.if_icmp .ne 15, 3) := by decide +kernel
theorem dX7_turnsGoing_37 : decode cX7_turnsGoing 37 = .ok (.aload_n 0, 1) := by decide +kernel
theorem dX7_turnsGoing_38 : decode cX7_turnsGoing 38 = .ok (.iload_n 3, 1) := by decide +kernel
theorem dX7_turnsGoing_39 : decode cX7_turnsGoing 39 = .ok (.invokevirtual 104, 3) := by decide +kernel
theorem dX7_turnsGoing_42 : decode cX7_turnsGoing 42 = .ok (.ifCond .ne 7, 3) := by decide +kernel
theorem dX7_turnsGoing_45 : decode cX7_turnsGoing 45 = .ok (.iload_n 2, 1) := by decide +kernel
theorem dX7_turnsGoing_46 : decode cX7_turnsGoing 46 = .ok (.goto 4, 3) := by decide +kernel
theorem dX7_turnsGoing_49 : decode cX7_turnsGoing 49 = .ok (.iload_n 1, 1) := by decide +kernel
theorem dX7_turnsGoing_50 : decode cX7_turnsGoing 50 = .ok (.istore_n 1, 1) := by decide +kernel
theorem dX7_turnsGoing_51 : decode cX7_turnsGoing 51 = .ok (.iinc 3 1, 3) := by decide +kernel
theorem dX7_turnsGoing_54 : decode cX7_turnsGoing 54 = .ok (.goto (-38), 3) := by decide +kernel
theorem dX7_turnsGoing_57 : decode cX7_turnsGoing 57 = .ok (.iinc 2 1, 3) := by decide +kernel
theorem dX7_turnsGoing_60 : decode cX7_turnsGoing 60 = .ok (.goto (-56), 3) := by decide +kernel
theorem dX7_turnsGoing_63 : decode cX7_turnsGoing 63 = .ok (.iload_n 1, 1) := by decide +kernel
theorem dX7_turnsGoing_64 : decode cX7_turnsGoing 64 = .ok (.ireturn, 1) := by decide +kernel
theorem dX7_turnsToPeaceByGoing_0 : decode cX7_turnsToPeaceByGoing 0 = .ok (.aload_n 0, 1) := by decide +kernel
theorem dX7_turnsToPeaceByGoing_1 : decode cX7_turnsToPeaceByGoing 1 = .ok (.iconst 0, 1) := by decide +kernel
theorem dX7_turnsToPeaceByGoing_2 : decode cX7_turnsToPeaceByGoing 2 = .ok (.putfield 31, 3) := by decide +kernel
theorem dX7_turnsToPeaceByGoing_5 : decode cX7_turnsToPeaceByGoing 5 = .ok (.aload_n 0, 1) := by decide +kernel
theorem dX7_turnsToPeaceByGoing_6 : decode cX7_turnsToPeaceByGoing 6 = .ok (.invokevirtual 251, 3) := by decide +kernel
theorem dX7_turnsToPeaceByGoing_9 : decode cX7_turnsToPeaceByGoing 9 = .ok (.ireturn, 1) := by decide +kernel
theorem dX7_nightIn_0 : decode cX7_nightIn 0 = .ok (.aload_n 0, 1) := by decide +kernel
theorem dX7_nightIn_1 : decode cX7_nightIn 1 = .ok (.aload_n 0, 1) := by decide +kernel
theorem dX7_nightIn_2 : decode cX7_nightIn 2 = .ok (.iload_n 1, 1) := by decide +kernel
theorem dX7_nightIn_3 : decode cX7_nightIn 3 = .ok (.invokevirtual 104, 3) := by decide +kernel
theorem dX7_nightIn_6 : decode cX7_nightIn 6 = .ok (.invokevirtual 107, 3) := by decide +kernel
theorem dX7_nightIn_9 : decode cX7_nightIn 9 = .ok (.ireturn, 1) := by decide +kernel
theorem dX7_nightNow_0 : decode cX7_nightNow 0 = .ok (.aload_n 0, 1) := by decide +kernel
theorem dX7_nightNow_1 : decode cX7_nightNow 1 = .ok (.iconst 0, 1) := by decide +kernel
theorem dX7_nightNow_2 : decode cX7_nightNow 2 = .ok (.putfield 31, 3) := by decide +kernel
theorem dX7_nightNow_5 : decode cX7_nightNow 5 = .ok (.aload_n 0, 1) := by decide +kernel
theorem dX7_nightNow_6 : decode cX7_nightNow 6 = .ok (.aload_n 0, 1) := by decide +kernel
theorem dX7_nightNow_7 : decode cX7_nightNow 7 = .ok (.getfield 7, 3) := by decide +kernel
theorem dX7_nightNow_10 : decode cX7_nightNow 10 = .ok (.iconst 1, 1) := by decide +kernel
theorem dX7_nightNow_11 : decode cX7_nightNow 11 = .ok (.iaload, 1) := by decide +kernel
theorem dX7_nightNow_12 : decode cX7_nightNow 12 = .ok (.invokevirtual 254, 3) := by decide +kernel
theorem dX7_nightNow_15 : decode cX7_nightNow 15 = .ok (.ireturn, 1) := by decide +kernel
theorem dX7_cheapest_0 : decode cX7_cheapest 0 = .ok (.iconst 0, 1) := by decide +kernel
theorem dX7_cheapest_1 : decode cX7_cheapest 1 = .ok (.istore_n 1, 1) := by decide +kernel
theorem dX7_cheapest_2 : decode cX7_cheapest 2 = .ok (.iconst 1, 1) := by decide +kernel
theorem dX7_cheapest_3 : decode cX7_cheapest 3 = .ok (.istore_n 2, 1) := by decide +kernel
theorem dX7_cheapest_4 : decode cX7_cheapest 4 = .ok (.iload_n 2, 1) := by decide +kernel
theorem dX7_cheapest_5 : decode cX7_cheapest 5 = .ok (.bipush 64, 2) := by decide +kernel
theorem dX7_cheapest_7 : decode cX7_cheapest 7 = .ok (.if_icmp .ge 28, 3) := by decide +kernel
theorem dX7_cheapest_10 : decode cX7_cheapest 10 = .ok (.aload_n 0, 1) := by decide +kernel
theorem dX7_cheapest_11 : decode cX7_cheapest 11 = .ok (.iload_n 2, 1) := by decide +kernel
theorem dX7_cheapest_12 : decode cX7_cheapest 12 = .ok (.invokevirtual 254, 3) := by decide +kernel
theorem dX7_cheapest_15 : decode cX7_cheapest 15 = .ok (.aload_n 0, 1) := by decide +kernel
theorem dX7_cheapest_16 : decode cX7_cheapest 16 = .ok (.iload_n 1, 1) := by decide +kernel
theorem dX7_cheapest_17 : decode cX7_cheapest 17 = .ok (.invokevirtual 254, 3) := by decide +kernel
theorem dX7_cheapest_20 : decode cX7_cheapest 20 = .ok (.if_icmp .ge 7, 3) := by decide +kernel
theorem dX7_cheapest_23 : decode cX7_cheapest 23 = .ok (.iload_n 2, 1) := by decide +kernel
theorem dX7_cheapest_24 : decode cX7_cheapest 24 = .ok (.goto 4, 3) := by decide +kernel
theorem dX7_cheapest_27 : decode cX7_cheapest 27 = .ok (.iload_n 1, 1) := by decide +kernel
theorem dX7_cheapest_28 : decode cX7_cheapest 28 = .ok (.istore_n 1, 1) := by decide +kernel
theorem dX7_cheapest_29 : decode cX7_cheapest 29 = .ok (.iinc 2 1, 3) := by decide +kernel
theorem dX7_cheapest_32 : decode cX7_cheapest 32 = .ok (.goto (-28), 3) := by decide +kernel
theorem dX7_cheapest_35 : decode cX7_cheapest 35 = .ok (.iload_n 1, 1) := by decide +kernel
theorem dX7_cheapest_36 : decode cX7_cheapest 36 = .ok (.ireturn, 1) := by decide +kernel
theorem dX7_cheapestWay_0 : decode cX7_cheapestWay 0 = .ok (.aload_n 0, 1) := by decide +kernel
theorem dX7_cheapestWay_1 : decode cX7_cheapestWay 1 = .ok (.iconst 0, 1) := by decide +kernel
theorem dX7_cheapestWay_2 : decode cX7_cheapestWay 2 = .ok (.putfield 31, 3) := by decide +kernel
theorem dX7_cheapestWay_5 : decode cX7_cheapestWay 5 = .ok (.aload_n 0, 1) := by decide +kernel
theorem dX7_cheapestWay_6 : decode cX7_cheapestWay 6 = .ok (.invokevirtual 257, 3) := by decide +kernel
theorem dX7_cheapestWay_9 : decode cX7_cheapestWay 9 = .ok (.ireturn, 1) := by decide +kernel
theorem dX7_cheapestNight_0 : decode cX7_cheapestNight 0 = .ok (.aload_n 0, 1) := by decide +kernel
theorem dX7_cheapestNight_1 : decode cX7_cheapestNight 1 = .ok (.iconst 0, 1) := by decide +kernel
theorem dX7_cheapestNight_2 : decode cX7_cheapestNight 2 = .ok (.putfield 31, 3) := by decide +kernel
theorem dX7_cheapestNight_5 : decode cX7_cheapestNight 5 = .ok (.aload_n 0, 1) := by decide +kernel
theorem dX7_cheapestNight_6 : decode cX7_cheapestNight 6 = .ok (.aload_n 0, 1) := by decide +kernel
theorem dX7_cheapestNight_7 : decode cX7_cheapestNight 7 = .ok (.invokevirtual 257, 3) := by decide +kernel
theorem dX7_cheapestNight_10 : decode cX7_cheapestNight 10 = .ok (.invokevirtual 254, 3) := by decide +kernel
theorem dX7_cheapestNight_13 : decode cX7_cheapestNight 13 = .ok (.ireturn, 1) := by decide +kernel
theorem dX7_turnBest_0 : decode cX7_turnBest 0 = .ok (.iconst (-1), 1) := by decide +kernel
theorem dX7_turnBest_1 : decode cX7_turnBest 1 = .ok (.istore_n 1, 1) := by decide +kernel
theorem dX7_turnBest_2 : decode cX7_turnBest 2 = .ok (.aload_n 0, 1) := by decide +kernel
theorem dX7_turnBest_3 : decode cX7_turnBest 3 = .ok (.aload_n 0, 1) := by decide +kernel
theorem dX7_turnBest_4 : decode cX7_turnBest 4 = .ok (.getfield 7, 3) := by decide +kernel
theorem dX7_turnBest_7 : decode cX7_turnBest 7 = .ok (.iconst 1, 1) := by decide +kernel
theorem dX7_turnBest_8 : decode cX7_turnBest 8 = .ok (.iaload, 1) := by decide +kernel
theorem dX7_turnBest_9 : decode cX7_turnBest 9 = .ok (.invokevirtual 254, 3) := by decide +kernel
theorem dX7_turnBest_12 : decode cX7_turnBest 12 = .ok (.istore_n 2, 1) := by decide +kernel
theorem dX7_turnBest_13 : decode cX7_turnBest 13 = .ok (.iconst 0, 1) := by decide +kernel
theorem dX7_turnBest_14 : decode cX7_turnBest 14 = .ok (.istore_n 3, 1) := by decide +kernel
theorem dX7_turnBest_15 : decode cX7_turnBest 15 = .ok (.iload_n 3, 1) := by decide +kernel
theorem dX7_turnBest_16 : decode cX7_turnBest 16 = .ok (.bipush 6, 2) := by decide +kernel
theorem dX7_turnBest_18 : decode cX7_turnBest 18 = .ok (.if_icmp .ge 69, 3) := by decide +kernel
theorem dX7_turnBest_21 : decode cX7_turnBest 21 = .ok (.aload_n 0, 1) := by decide +kernel
theorem dX7_turnBest_22 : decode cX7_turnBest 22 = .ok (.aload_n 0, 1) := by decide +kernel
theorem dX7_turnBest_23 : decode cX7_turnBest 23 = .ok (.getfield 7, 3) := by decide +kernel
theorem dX7_turnBest_26 : decode cX7_turnBest 26 = .ok (.iconst 1, 1) := by decide +kernel
theorem dX7_turnBest_27 : decode cX7_turnBest 27 = .ok (.iaload, 1) := by decide +kernel
theorem dX7_turnBest_28 : decode cX7_turnBest 28 = .ok (.iconst 1, 1) := by decide +kernel
theorem dX7_turnBest_29 : decode cX7_turnBest 29 = .ok (.iload_n 3, 1) := by decide +kernel
theorem dX7_turnBest_30 : decode cX7_turnBest 30 = .ok (.ishl, 1) := by decide +kernel
theorem dX7_turnBest_31 : decode cX7_turnBest 31 = .ok (.ixor, 1) := by decide +kernel
theorem dX7_turnBest_32 : decode cX7_turnBest 32 = .ok (.invokevirtual 254, 3) := by decide +kernel
theorem dX7_turnBest_35 : decode cX7_turnBest 35 = .ok (.istore 4, 2) := by decide +kernel
theorem dX7_turnBest_37 : decode cX7_turnBest 37 = .ok (.iload 4, 2) := by decide +kernel
theorem dX7_turnBest_39 : decode cX7_turnBest 39 = .ok (.iload_n 2, 1) := by decide +kernel
theorem dX7_turnBest_40 : decode cX7_turnBest 40 = .ok (.if_icmp .ge 15, 3) := by decide +kernel
theorem dX7_turnBest_43 : decode cX7_turnBest 43 = .ok (.aload_n 0, 1) := by decide +kernel
theorem dX7_turnBest_44 : decode cX7_turnBest 44 = .ok (.iload_n 3, 1) := by decide +kernel
theorem dX7_turnBest_45 : decode cX7_turnBest 45 = .ok (.invokevirtual 94, 3) := by decide +kernel
theorem dX7_turnBest_48 : decode cX7_turnBest 48 = .ok (.ifCond .ge 7, 3) := by decide +kernel
theorem dX7_turnBest_51 : decode cX7_turnBest 51 = .ok (.iconst 1, 1) := by decide +kernel
theorem dX7_turnBest_52 : decode cX7_turnBest 52 = .ok (.goto 4, 3) := by decide +kernel
theorem dX7_turnBest_55 : decode cX7_turnBest 55 = .ok (.iconst 0, 1) := by decide +kernel
theorem dX7_turnBest_56 : decode cX7_turnBest 56 = .ok (.istore 5, 2) := by decide +kernel
theorem dX7_turnBest_58 : decode cX7_turnBest 58 = .ok (.iload 5, 2) := by decide +kernel
theorem dX7_turnBest_60 : decode cX7_turnBest 60 = .ok (.ifCond .eq 7, 3) := by decide +kernel
theorem dX7_turnBest_63 : decode cX7_turnBest 63 = .ok (.iload_n 3, 1) := by decide +kernel
theorem dX7_turnBest_64 : decode cX7_turnBest 64 = .ok (.goto 4, 3) := by decide +kernel
theorem dX7_turnBest_67 : decode cX7_turnBest 67 = .ok (.iload_n 1, 1) := by decide +kernel
theorem dX7_turnBest_68 : decode cX7_turnBest 68 = .ok (.istore_n 1, 1) := by decide +kernel
theorem dX7_turnBest_69 : decode cX7_turnBest 69 = .ok (.iload 5, 2) := by decide +kernel
theorem dX7_turnBest_71 : decode cX7_turnBest 71 = .ok (.ifCond .eq 8, 3) := by decide +kernel
theorem dX7_turnBest_74 : decode cX7_turnBest 74 = .ok (.iload 4, 2) := by decide +kernel
theorem dX7_turnBest_76 : decode cX7_turnBest 76 = .ok (.goto 4, 3) := by decide +kernel
theorem dX7_turnBest_79 : decode cX7_turnBest 79 = .ok (.iload_n 2, 1) := by decide +kernel
theorem dX7_turnBest_80 : decode cX7_turnBest 80 = .ok (.istore_n 2, 1) := by decide +kernel
theorem dX7_turnBest_81 : decode cX7_turnBest 81 = .ok (.iinc 3 1, 3) := by decide +kernel
theorem dX7_turnBest_84 : decode cX7_turnBest 84 = .ok (.goto (-69), 3) := by decide +kernel
theorem dX7_turnBest_87 : decode cX7_turnBest 87 = .ok (.iload_n 1, 1) := by decide +kernel
theorem dX7_turnBest_88 : decode cX7_turnBest 88 = .ok (.ireturn, 1) := by decide +kernel
theorem dX7_bestTurn_0 : decode cX7_bestTurn 0 = .ok (.aload_n 0, 1) := by decide +kernel
theorem dX7_bestTurn_1 : decode cX7_bestTurn 1 = .ok (.iconst 0, 1) := by decide +kernel
theorem dX7_bestTurn_2 : decode cX7_bestTurn 2 = .ok (.putfield 31, 3) := by decide +kernel
theorem dX7_bestTurn_5 : decode cX7_bestTurn 5 = .ok (.aload_n 0, 1) := by decide +kernel
theorem dX7_bestTurn_6 : decode cX7_bestTurn 6 = .ok (.invokevirtual 260, 3) := by decide +kernel
theorem dX7_bestTurn_9 : decode cX7_bestTurn 9 = .ok (.ireturn, 1) := by decide +kernel
theorem dX7_ahead_0 : decode cX7_ahead 0 = .ok (.iconst 0, 1) := by decide +kernel
theorem dX7_ahead_1 : decode cX7_ahead 1 = .ok (.istore_n 2, 1) := by decide +kernel
theorem dX7_ahead_2 : decode cX7_ahead 2 = .ok (.iconst 0, 1) := by decide +kernel
theorem dX7_ahead_3 : decode cX7_ahead 3 = .ok (.istore_n 3, 1) := by decide +kernel
theorem dX7_ahead_4 : decode cX7_ahead 4 = .ok (.iload_n 3, 1) := by decide +kernel
theorem dX7_ahead_5 : decode cX7_ahead 5 = .ok (.iload_n 1, 1) := by decide +kernel
theorem dX7_ahead_6 : decode cX7_ahead 6 = .ok (.if_icmp .ge 80, 3) := by decide +kernel
theorem dX7_ahead_9 : decode cX7_ahead 9 = .ok (.iconst 0, 1) := by decide +kernel
theorem dX7_ahead_10 : decode cX7_ahead 10 = .ok (.istore 4, 2) := by decide +kernel
theorem dX7_ahead_12 : decode cX7_ahead 12 = .ok (.iload 4, 2) := by decide +kernel
theorem dX7_ahead_14 : decode cX7_ahead 14 = .ok (.aload_n 0, 1) := by decide +kernel
theorem dX7_ahead_15 : decode cX7_ahead 15 = .ok (.getfield 7, 3) := by decide +kernel
theorem dX7_ahead_18 : decode cX7_ahead 18 = .ok (.iconst 0, 1) := by decide +kernel
theorem dX7_ahead_19 : decode cX7_ahead 19 = .ok (.iaload, 1) := by decide +kernel
theorem dX7_ahead_20 : decode cX7_ahead 20 = .ok (.if_icmp .ge 60, 3) := by decide +kernel
theorem dX7_ahead_23 : decode cX7_ahead 23 = .ok (.iload_n 2, 1) := by decide +kernel
theorem dX7_ahead_24 : decode cX7_ahead 24 = .ok (.aload_n 0, 1) := by decide +kernel
theorem dX7_ahead_25 : decode cX7_ahead 25 = .ok (.iload 4, 2) := by decide +kernel
theorem dX7_ahead_27 : decode cX7_ahead 27 = .ok (.aload_n 0, 1) := by decide +kernel
theorem dX7_ahead_28 : decode cX7_ahead 28 = .ok (.getfield 7, 3) := by decide +kernel
theorem dX7_ahead_31 : decode cX7_ahead 31 = .ok (.iconst 2, 1) := by decide +kernel
theorem dX7_ahead_32 : decode cX7_ahead 32 = .ok (.iaload, 1) := by decide +kernel
theorem dX7_ahead_33 : decode cX7_ahead 33 = .ok (.iload_n 3, 1) := by decide +kernel
theorem dX7_ahead_34 : decode cX7_ahead 34 = .ok (.iadd, 1) := by decide +kernel
theorem dX7_ahead_35 : decode cX7_ahead 35 = .ok (.invokevirtual 60, 3) := by decide +kernel
theorem dX7_ahead_38 : decode cX7_ahead 38 = .ok (.ifCond .eq 33, 3) := by decide +kernel
theorem dX7_ahead_41 : decode cX7_ahead 41 = .ok (.aload_n 0, 1) := by decide +kernel
theorem dX7_ahead_42 : decode cX7_ahead 42 = .ok (.iload 4, 2) := by decide +kernel
theorem dX7_ahead_44 : decode cX7_ahead 44 = .ok (.aload_n 0, 1) := by decide +kernel
theorem dX7_ahead_45 : decode cX7_ahead 45 = .ok (.getfield 7, 3) := by decide +kernel
theorem dX7_ahead_48 : decode cX7_ahead 48 = .ok (.iconst 1, 1) := by decide +kernel
theorem dX7_ahead_49 : decode cX7_ahead 49 = .ok (.iaload, 1) := by decide +kernel
theorem dX7_ahead_50 : decode cX7_ahead 50 = .ok (.invokevirtual 63, 3) := by decide +kernel
theorem dX7_ahead_53 : decode cX7_ahead 53 = .ok (.ifCond .ne 18, 3) := by decide +kernel
theorem dX7_ahead_56 : decode cX7_ahead 56 = .ok (.aload_n 0, 1) := by decide +kernel
theorem dX7_ahead_57 : decode cX7_ahead 57 = .ok (.getfield 7, 3) := by decide +kernel
theorem dX7_ahead_60 : decode cX7_ahead 60 = .ok (.iload 4, 2) := by decide +kernel
theorem dX7_ahead_62 : decode cX7_ahead 62 = .ok (.invokestatic 52, 3) := by decide +kernel
theorem dX7_ahead_65 : decode cX7_ahead 65 = .ok (.iconst 2, 1) := by decide +kernel
theorem dX7_ahead_66 : decode cX7_ahead 66 = .ok (.iadd, 1) := by decide +kernel
theorem dX7_ahead_67 : decode cX7_ahead 67 = .ok (.iaload, 1) := by decide +kernel
theorem dX7_ahead_68 : decode cX7_ahead 68 = .ok (.goto 4, 3) := by decide +kernel
theorem dX7_ahead_71 : decode cX7_ahead 71 = .ok (.iconst 0, 1) := by decide +kernel
theorem dX7_ahead_72 : decode cX7_ahead 72 = .ok (.iadd, 1) := by decide +kernel
theorem dX7_ahead_73 : decode cX7_ahead 73 = .ok (.istore_n 2, 1) := by decide +kernel
theorem dX7_ahead_74 : decode cX7_ahead 74 = .ok (.iinc 4 1, 3) := by decide +kernel
theorem dX7_ahead_77 : decode cX7_ahead 77 = .ok (.goto (-65), 3) := by decide +kernel
theorem dX7_ahead_80 : decode cX7_ahead 80 = .ok (.iinc 3 1, 3) := by decide +kernel
theorem dX7_ahead_83 : decode cX7_ahead 83 = .ok (.goto (-79), 3) := by decide +kernel
theorem dX7_ahead_86 : decode cX7_ahead 86 = .ok (.iload_n 2, 1) := by decide +kernel
theorem dX7_ahead_87 : decode cX7_ahead 87 = .ok (.ireturn, 1) := by decide +kernel
theorem dX7_finesIn_0 : decode cX7_finesIn 0 = .ok (.aload_n 0, 1) := by decide +kernel
theorem dX7_finesIn_1 : decode cX7_finesIn 1 = .ok (.iload_n 1, 1) := by decide +kernel
theorem dX7_finesIn_2 : decode cX7_finesIn 2 = .ok (.iconst 1, 1) := by decide +kernel
theorem dX7_finesIn_3 : decode cX7_finesIn 3 = .ok (.bipush 30, 2) := by decide +kernel
theorem dX7_finesIn_5 : decode cX7_finesIn 5 = .ok (.invokestatic 42, 3) := by decide +kernel
theorem dX7_finesIn_8 : decode cX7_finesIn 8 = .ok (.iconst 1, 1) := by decide +kernel
theorem dX7_finesIn_9 : decode cX7_finesIn 9 = .ok (.iconst 1, 1) := by decide +kernel
theorem dX7_finesIn_10 : decode cX7_finesIn 10 = .ok (.invokevirtual 69, 3) := by decide +kernel
theorem dX7_finesIn_13 : decode cX7_finesIn 13 = .ok (.ifCond .eq 11, 3) := by decide +kernel
theorem dX7_finesIn_16 : decode cX7_finesIn 16 = .ok (.aload_n 0, 1) := by decide +kernel
theorem dX7_finesIn_17 : decode cX7_finesIn 17 = .ok (.iload_n 1, 1) := by decide +kernel
theorem dX7_finesIn_18 : decode cX7_finesIn 18 = .ok (.invokevirtual 263, 3) := by decide +kernel
theorem dX7_finesIn_21 : decode cX7_finesIn 21 = .ok (.goto 4, 3) := by decide +kernel
theorem dX7_finesIn_24 : decode cX7_finesIn 24 = .ok (.iconst 0, 1) := by decide +kernel
theorem dX7_finesIn_25 : decode cX7_finesIn 25 = .ok (.ireturn, 1) := by decide +kernel
theorem dX7_peaceShare_0 : decode cX7_peaceShare 0 = .ok (.aload_n 0, 1) := by decide +kernel
theorem dX7_peaceShare_1 : decode cX7_peaceShare 1 = .ok (.iconst 0, 1) := by decide +kernel
theorem dX7_peaceShare_2 : decode cX7_peaceShare 2 = .ok (.putfield 31, 3) := by decide +kernel
theorem dX7_peaceShare_5 : decode cX7_peaceShare 5 = .ok (.aload_n 0, 1) := by decide +kernel
theorem dX7_peaceShare_6 : decode cX7_peaceShare 6 = .ok (.invokevirtual 206, 3) := by decide +kernel
theorem dX7_peaceShare_9 : decode cX7_peaceShare 9 = .ok (.i2d, 1) := by decide +kernel
theorem dX7_peaceShare_10 : decode cX7_peaceShare 10 = .ok (.ldc2_w 266, 3) := by decide +kernel
theorem dX7_peaceShare_13 : decode cX7_peaceShare 13 = .ok (.ddiv, 1) := by decide +kernel
theorem dX7_peaceShare_14 : decode cX7_peaceShare 14 = .ok (.dreturn, 1) := by decide +kernel
theorem dX7_sumOfFines_0 : decode cX7_sumOfFines 0 = .ok (.iconst 0, 1) := by decide +kernel
theorem dX7_sumOfFines_1 : decode cX7_sumOfFines 1 = .ok (.istore_n 1, 1) := by decide +kernel
theorem dX7_sumOfFines_2 : decode cX7_sumOfFines 2 = .ok (.iconst 0, 1) := by decide +kernel
theorem dX7_sumOfFines_3 : decode cX7_sumOfFines 3 = .ok (.istore_n 2, 1) := by decide +kernel
theorem dX7_sumOfFines_4 : decode cX7_sumOfFines 4 = .ok (.iload_n 2, 1) := by decide +kernel
theorem dX7_sumOfFines_5 : decode cX7_sumOfFines 5 = .ok (.aload_n 0, 1) := by decide +kernel
theorem dX7_sumOfFines_6 : decode cX7_sumOfFines 6 = .ok (.getfield 7, 3) := by decide +kernel
theorem dX7_sumOfFines_9 : decode cX7_sumOfFines 9 = .ok (.iconst 0, 1) := by decide +kernel
theorem dX7_sumOfFines_10 : decode cX7_sumOfFines 10 = .ok (.iaload, 1) := by decide +kernel
theorem dX7_sumOfFines_11 : decode cX7_sumOfFines 11 = .ok (.if_icmp .ge 23, 3) := by decide +kernel
theorem dX7_sumOfFines_14 : decode cX7_sumOfFines 14 = .ok (.iload_n 1, 1) := by decide +kernel
theorem dX7_sumOfFines_15 : decode cX7_sumOfFines 15 = .ok (.aload_n 0, 1) := by decide +kernel
theorem dX7_sumOfFines_16 : decode cX7_sumOfFines 16 = .ok (.getfield 7, 3) := by decide +kernel
theorem dX7_sumOfFines_19 : decode cX7_sumOfFines 19 = .ok (.iload_n 2, 1) := by decide +kernel
theorem dX7_sumOfFines_20 : decode cX7_sumOfFines 20 = .ok (.invokestatic 52, 3) := by decide +kernel
theorem dX7_sumOfFines_23 : decode cX7_sumOfFines 23 = .ok (.iconst 2, 1) := by decide +kernel
theorem dX7_sumOfFines_24 : decode cX7_sumOfFines 24 = .ok (.iadd, 1) := by decide +kernel
theorem dX7_sumOfFines_25 : decode cX7_sumOfFines 25 = .ok (.iaload, 1) := by decide +kernel
theorem dX7_sumOfFines_26 : decode cX7_sumOfFines 26 = .ok (.iadd, 1) := by decide +kernel
theorem dX7_sumOfFines_27 : decode cX7_sumOfFines 27 = .ok (.istore_n 1, 1) := by decide +kernel
theorem dX7_sumOfFines_28 : decode cX7_sumOfFines 28 = .ok (.iinc 2 1, 3) := by decide +kernel
theorem dX7_sumOfFines_31 : decode cX7_sumOfFines 31 = .ok (.goto (-27), 3) := by decide +kernel
theorem dX7_sumOfFines_34 : decode cX7_sumOfFines 34 = .ok (.iload_n 1, 1) := by decide +kernel
theorem dX7_sumOfFines_35 : decode cX7_sumOfFines 35 = .ok (.ireturn, 1) := by decide +kernel
theorem dX7_meanFine_0 : decode cX7_meanFine 0 = .ok (.aload_n 0, 1) := by decide +kernel
theorem dX7_meanFine_1 : decode cX7_meanFine 1 = .ok (.iconst 0, 1) := by decide +kernel
theorem dX7_meanFine_2 : decode cX7_meanFine 2 = .ok (.putfield 31, 3) := by decide +kernel
theorem dX7_meanFine_5 : decode cX7_meanFine 5 = .ok (.aload_n 0, 1) := by decide +kernel
theorem dX7_meanFine_6 : decode cX7_meanFine 6 = .ok (.getfield 7, 3) := by decide +kernel
theorem dX7_meanFine_9 : decode cX7_meanFine 9 = .ok (.iconst 0, 1) := by decide +kernel
theorem dX7_meanFine_10 : decode cX7_meanFine 10 = .ok (.iaload, 1) := by decide +kernel
theorem dX7_meanFine_11 : decode cX7_meanFine 11 = .ok (.ifCond .ne 7, 3) := by decide +kernel
theorem dX7_meanFine_14 : decode cX7_meanFine 14 = .ok (.fconst 0, 1) := by decide +kernel
theorem dX7_meanFine_15 : decode cX7_meanFine 15 = .ok (.goto 16, 3) := by decide +kernel
theorem dX7_meanFine_18 : decode cX7_meanFine 18 = .ok (.aload_n 0, 1) := by decide +kernel
theorem dX7_meanFine_19 : decode cX7_meanFine 19 = .ok (.invokevirtual 268, 3) := by decide +kernel
theorem dX7_meanFine_22 : decode cX7_meanFine 22 = .ok (.i2f, 1) := by decide +kernel
theorem dX7_meanFine_23 : decode cX7_meanFine 23 = .ok (.aload_n 0, 1) := by decide +kernel
theorem dX7_meanFine_24 : decode cX7_meanFine 24 = .ok (.getfield 7, 3) := by decide +kernel
theorem dX7_meanFine_27 : decode cX7_meanFine 27 = .ok (.iconst 0, 1) := by decide +kernel
theorem dX7_meanFine_28 : decode cX7_meanFine 28 = .ok (.iaload, 1) := by decide +kernel
theorem dX7_meanFine_29 : decode cX7_meanFine 29 = .ok (.i2f, 1) := by decide +kernel
theorem dX7_meanFine_30 : decode cX7_meanFine 30 = .ok (.fdiv, 1) := by decide +kernel
theorem dX7_meanFine_31 : decode cX7_meanFine 31 = .ok (.freturn, 1) := by decide +kernel
theorem dX7_shareBits_0 : decode cX7_shareBits 0 = .ok (.iload_n 0, 1) := by decide +kernel
theorem dX7_shareBits_1 : decode cX7_shareBits 1 = .ok (.ifCond .ne 5, 3) := by decide +kernel
theorem dX7_shareBits_4 : decode cX7_shareBits 4 = .ok (.lconst 0, 1) := by decide +kernel
theorem dX7_shareBits_5 : decode cX7_shareBits 5 = .ok (.lreturn, 1) := by decide +kernel
theorem dX7_shareBits_6 : decode cX7_shareBits 6 = .ok (.iload_n 0, 1) := by decide +kernel
theorem dX7_shareBits_7 : decode cX7_shareBits 7 = .ok (.i2l, 1) := by decide +kernel
theorem dX7_shareBits_8 : decode cX7_shareBits 8 = .ok (.lstore_n 1, 1) := by decide +kernel
theorem dX7_shareBits_9 : decode cX7_shareBits 9 = .ok (.bipush 6, 2) := by decide +kernel
theorem dX7_shareBits_11 : decode cX7_shareBits 11 = .ok (.istore_n 3, 1) := by decide +kernel
theorem dX7_shareBits_12 : decode cX7_shareBits 12 = .ok (.lload_n 1, 1) := by decide +kernel
theorem dX7_shareBits_13 : decode cX7_shareBits 13 = .ok (.ldc2_w 271, 3) := by decide +kernel
theorem dX7_shareBits_16 : decode cX7_shareBits 16 = .ok (.lcmp, 1) := by decide +kernel
theorem dX7_shareBits_17 : decode cX7_shareBits 17 = .ok (.ifCond .ge 15, 3) := by decide +kernel
theorem dX7_shareBits_20 : decode cX7_shareBits 20 = .ok (.ldc2_w 273, 3) := by decide +kernel
theorem dX7_shareBits_23 : decode cX7_shareBits 23 = .ok (.lload_n 1, 1) := by decide +kernel
theorem dX7_shareBits_24 : decode cX7_shareBits 24 = .ok (.lmul, 1) := by decide +kernel
theorem dX7_shareBits_25 : decode cX7_shareBits 25 = .ok (.lstore_n 1, 1) := by decide +kernel
theorem dX7_shareBits_26 : decode cX7_shareBits 26 = .ok (.iinc 3 1, 3) := by decide +kernel
theorem dX7_shareBits_29 : decode cX7_shareBits 29 = .ok (.goto (-17), 3) := by decide +kernel
theorem dX7_shareBits_32 : decode cX7_shareBits 32 = .ok (.sipush 1075, 3) := by decide +kernel
theorem dX7_shareBits_35 : decode cX7_shareBits 35 = .ok (.iload_n 3, 1) := by decide +kernel
theorem dX7_shareBits_36 : decode cX7_shareBits 36 = .ok (.isub, 1) := by decide +kernel
theorem dX7_shareBits_37 : decode cX7_shareBits 37 = .ok (.i2l, 1) := by decide +kernel
theorem dX7_shareBits_38 : decode cX7_shareBits 38 = .ok (.ldc2_w 271, 3) := by decide +kernel
theorem dX7_shareBits_41 : decode cX7_shareBits 41 = .ok (.lmul, 1) := by decide +kernel
theorem dX7_shareBits_42 : decode cX7_shareBits 42 = .ok (.lload_n 1, 1) := by decide +kernel
theorem dX7_shareBits_43 : decode cX7_shareBits 43 = .ok (.ldc2_w 271, 3) := by decide +kernel
theorem dX7_shareBits_46 : decode cX7_shareBits 46 = .ok (.lsub, 1) := by decide +kernel
theorem dX7_shareBits_47 : decode cX7_shareBits 47 = .ok (.ladd, 1) := by decide +kernel
theorem dX7_shareBits_48 : decode cX7_shareBits 48 = .ok (.lreturn, 1) := by decide +kernel
theorem dX7_meanBits_0 : decode cX7_meanBits 0 = .ok (.iload_n 0, 1) := by decide +kernel
theorem dX7_meanBits_1 : decode cX7_meanBits 1 = .ok (.ifCond .ne 5, 3) := by decide +kernel
theorem dX7_meanBits_4 : decode cX7_meanBits 4 = .ok (.iconst 0, 1) := by decide +kernel
theorem dX7_meanBits_5 : decode cX7_meanBits 5 = .ok (.ireturn, 1) := by decide +kernel
theorem dX7_meanBits_6 : decode cX7_meanBits 6 = .ok (.iload_n 0, 1) := by decide +kernel
theorem dX7_meanBits_7 : decode cX7_meanBits 7 = .ok (.i2l, 1) := by decide +kernel
theorem dX7_meanBits_8 : decode cX7_meanBits 8 = .ok (.lstore_n 2, 1) := by decide +kernel
theorem dX7_meanBits_9 : decode cX7_meanBits 9 = .ok (.iconst 0, 1) := by decide +kernel
theorem dX7_meanBits_10 : decode cX7_meanBits 10 = .ok (.istore 4, 2) := by decide +kernel
theorem dX7_meanBits_12 : decode cX7_meanBits 12 = .ok (.lload_n 2, 1) := by decide +kernel
theorem dX7_meanBits_13 : decode cX7_meanBits 13 = .ok (.iload_n 1, 1) := by decide +kernel
theorem dX7_meanBits_14 : decode cX7_meanBits 14 = .ok (.i2l, 1) := by decide +kernel
theorem dX7_meanBits_15 : decode cX7_meanBits 15 = .ok (.ldiv, 1) := by decide +kernel
theorem dX7_meanBits_16 : decode cX7_meanBits 16 = .ok (.ldc2_w 275, 3) := by decide +kernel
theorem dX7_meanBits_19 : decode cX7_meanBits 19 = .ok (.lcmp, 1) := by decide +kernel
theorem dX7_meanBits_20 : decode cX7_meanBits 20 = .ok (.ifCond .ge 15, 3) := by decide +kernel
theorem dX7_meanBits_23 : decode cX7_meanBits 23 = .ok (.ldc2_w 273, 3) := by decide +kernel
theorem dX7_meanBits_26 : decode cX7_meanBits 26 = .ok (.lload_n 2, 1) := by decide +kernel
theorem dX7_meanBits_27 : decode cX7_meanBits 27 = .ok (.lmul, 1) := by decide +kernel
theorem dX7_meanBits_28 : decode cX7_meanBits 28 = .ok (.lstore_n 2, 1) := by decide +kernel
theorem dX7_meanBits_29 : decode cX7_meanBits 29 = .ok (.iinc 4 1, 3) := by decide +kernel
theorem dX7_meanBits_32 : decode cX7_meanBits 32 = .ok (.goto (-20), 3) := by decide +kernel
theorem dX7_meanBits_35 : decode cX7_meanBits 35 = .ok (.lload_n 2, 1) := by decide +kernel
theorem dX7_meanBits_36 : decode cX7_meanBits 36 = .ok (.iload_n 1, 1) := by decide +kernel
theorem dX7_meanBits_37 : decode cX7_meanBits 37 = .ok (.i2l, 1) := by decide +kernel
theorem dX7_meanBits_38 : decode cX7_meanBits 38 = .ok (.ldiv, 1) := by decide +kernel
theorem dX7_meanBits_39 : decode cX7_meanBits 39 = .ok (.lstore 5, 2) := by decide +kernel
theorem dX7_meanBits_41 : decode cX7_meanBits 41 = .ok (.lload_n 2, 1) := by decide +kernel
theorem dX7_meanBits_42 : decode cX7_meanBits 42 = .ok (.iload_n 1, 1) := by decide +kernel
theorem dX7_meanBits_43 : decode cX7_meanBits 43 = .ok (.i2l, 1) := by decide +kernel
theorem dX7_meanBits_44 : decode cX7_meanBits 44 = .ok (.lrem, 1) := by decide +kernel
theorem dX7_meanBits_45 : decode cX7_meanBits 45 = .ok (.ldc2_w 273, 3) := by decide +kernel
theorem dX7_meanBits_48 : decode cX7_meanBits 48 = .ok (.lmul, 1) := by decide +kernel
theorem dX7_meanBits_49 : decode cX7_meanBits 49 = .ok (.lstore 7, 2) := by decide +kernel
theorem dX7_meanBits_51 : decode cX7_meanBits 51 = .ok (.lload 5, 2) := by decide +kernel
theorem dX7_meanBits_53 : decode cX7_meanBits 53 = .ok (.lload 7, 2) := by decide +kernel
theorem dX7_meanBits_55 : decode cX7_meanBits 55 = .ok (.iload_n 1, 1) := by decide +kernel
theorem dX7_meanBits_56 : decode cX7_meanBits 56 = .ok (.i2l, 1) := by decide +kernel
theorem dX7_meanBits_57 : decode cX7_meanBits 57 = .ok (.lcmp, 1) := by decide +kernel
theorem dX7_meanBits_58 : decode cX7_meanBits 58 = .ok (.ifCond .gt 22, 3) := by decide +kernel
theorem dX7_meanBits_61 : decode cX7_meanBits 61 = .ok (.lload 7, 2) := by decide +kernel
theorem dX7_meanBits_63 : decode cX7_meanBits 63 = .ok (.iload_n 1, 1) := by decide +kernel
theorem dX7_meanBits_64 : decode cX7_meanBits 64 = .ok (.i2l, 1) := by decide +kernel
theorem dX7_meanBits_65 : decode cX7_meanBits 65 = .ok (.lcmp, 1) := by decide +kernel
theorem dX7_meanBits_66 : decode cX7_meanBits 66 = .ok (.ifCond .ne 18, 3) := by decide +kernel
theorem dX7_meanBits_69 : decode cX7_meanBits 69 = .ok (.lload 5, 2) := by decide +kernel
theorem dX7_meanBits_71 : decode cX7_meanBits 71 = .ok (.ldc2_w 273, 3) := by decide +kernel
theorem dX7_meanBits_74 : decode cX7_meanBits 74 = .ok (.lrem, 1) := by decide +kernel
theorem dX7_meanBits_75 : decode cX7_meanBits 75 = .ok (.lconst 1, 1) := by decide +kernel
theorem dX7_meanBits_76 : decode cX7_meanBits 76 = .ok (.lcmp, 1) := by decide +kernel
theorem dX7_meanBits_77 : decode cX7_meanBits 77 = .ok (.ifCond .ne 7, 3) := by decide +kernel
theorem dX7_meanBits_80 : decode cX7_meanBits 80 = .ok (.lconst 1, 1) := by decide +kernel
theorem dX7_meanBits_81 : decode cX7_meanBits 81 = .ok (.goto 4, 3) := by decide +kernel
theorem dX7_meanBits_84 : decode cX7_meanBits 84 = .ok (.lconst 0, 1) := by decide +kernel
theorem dX7_meanBits_85 : decode cX7_meanBits 85 = .ok (.ladd, 1) := by decide +kernel
theorem dX7_meanBits_86 : decode cX7_meanBits 86 = .ok (.lstore 5, 2) := by decide +kernel
theorem dX7_meanBits_88 : decode cX7_meanBits 88 = .ok (.lload 5, 2) := by decide +kernel
theorem dX7_meanBits_90 : decode cX7_meanBits 90 = .ok (.ldc2_w 277, 3) := by decide +kernel
theorem dX7_meanBits_93 : decode cX7_meanBits 93 = .ok (.lcmp, 1) := by decide +kernel
theorem dX7_meanBits_94 : decode cX7_meanBits 94 = .ok (.ifCond .ne 11, 3) := by decide +kernel
theorem dX7_meanBits_97 : decode cX7_meanBits 97 = .ok (.ldc2_w 275, 3) := by decide +kernel
theorem dX7_meanBits_100 : decode cX7_meanBits 100 = .ok (.lstore 5, 2) := by decide +kernel
theorem dX7_meanBits_102 : decode cX7_meanBits 102 = .ok (.iinc 4 (-1), 3) := by decide +kernel
theorem dX7_meanBits_105 : decode cX7_meanBits 105 = .ok (.ldc2_w 279, 3) := by decide +kernel
theorem dX7_meanBits_108 : decode cX7_meanBits 108 = .ok (.iload 4, 2) := by decide +kernel
theorem dX7_meanBits_110 : decode cX7_meanBits 110 = .ok (.i2l, 1) := by decide +kernel
theorem dX7_meanBits_111 : decode cX7_meanBits 111 = .ok (.lsub, 1) := by decide +kernel
theorem dX7_meanBits_112 : decode cX7_meanBits 112 = .ok (.ldc2_w 275, 3) := by decide +kernel
theorem dX7_meanBits_115 : decode cX7_meanBits 115 = .ok (.lmul, 1) := by decide +kernel
theorem dX7_meanBits_116 : decode cX7_meanBits 116 = .ok (.lload 5, 2) := by decide +kernel
theorem dX7_meanBits_118 : decode cX7_meanBits 118 = .ok (.ldc2_w 275, 3) := by decide +kernel
theorem dX7_meanBits_121 : decode cX7_meanBits 121 = .ok (.lsub, 1) := by decide +kernel
theorem dX7_meanBits_122 : decode cX7_meanBits 122 = .ok (.ladd, 1) := by decide +kernel
theorem dX7_meanBits_123 : decode cX7_meanBits 123 = .ok (.l2i, 1) := by decide +kernel
theorem dX7_meanBits_124 : decode cX7_meanBits 124 = .ok (.ireturn, 1) := by decide +kernel
theorem dX7_digest_0 : decode cX7_digest 0 = .ok (.ldc2_w 281, 3) := by decide +kernel
theorem dX7_digest_3 : decode cX7_digest 3 = .ok (.lstore_n 1, 1) := by decide +kernel
theorem dX7_digest_4 : decode cX7_digest 4 = .ok (.ldc2_w 283, 3) := by decide +kernel
theorem dX7_digest_7 : decode cX7_digest 7 = .ok (.lload_n 1, 1) := by decide +kernel
theorem dX7_digest_8 : decode cX7_digest 8 = .ok (.lmul, 1) := by decide +kernel
theorem dX7_digest_9 : decode cX7_digest 9 = .ok (.aload_n 0, 1) := by decide +kernel
theorem dX7_digest_10 : decode cX7_digest 10 = .ok (.getfield 7, 3) := by decide +kernel
theorem dX7_digest_13 : decode cX7_digest 13 = .ok (.iconst 0, 1) := by decide +kernel
theorem dX7_digest_14 : decode cX7_digest 14 = .ok (.iaload, 1) := by decide +kernel
theorem dX7_digest_15 : decode cX7_digest 15 = .ok (.i2l, 1) := by decide +kernel
theorem dX7_digest_16 : decode cX7_digest 16 = .ok (.ladd, 1) := by decide +kernel
theorem dX7_digest_17 : decode cX7_digest 17 = .ok (.lstore_n 1, 1) := by decide +kernel
theorem dX7_digest_18 : decode cX7_digest 18 = .ok (.iconst 0, 1) := by decide +kernel
theorem dX7_digest_19 : decode cX7_digest 19 = .ok (.istore_n 3, 1) := by decide +kernel
theorem dX7_digest_20 : decode cX7_digest 20 = .ok (.iload_n 3, 1) := by decide +kernel
theorem dX7_digest_21 : decode cX7_digest 21 = .ok (.aload_n 0, 1) := by decide +kernel
theorem dX7_digest_22 : decode cX7_digest 22 = .ok (.getfield 7, 3) := by decide +kernel
theorem dX7_digest_25 : decode cX7_digest 25 = .ok (.iconst 0, 1) := by decide +kernel
theorem dX7_digest_26 : decode cX7_digest 26 = .ok (.iaload, 1) := by decide +kernel
theorem dX7_digest_27 : decode cX7_digest 27 = .ok (.if_icmp .ge 153, 3) := by decide +kernel
theorem dX7_digest_30 : decode cX7_digest 30 = .ok (.iload_n 3, 1) := by decide +kernel
theorem dX7_digest_31 : decode cX7_digest 31 = .ok (.invokestatic 52, 3) := by decide +kernel
theorem dX7_digest_34 : decode cX7_digest 34 = .ok (.istore 4, 2) := by decide +kernel
theorem dX7_digest_36 : decode cX7_digest 36 = .ok (.ldc2_w 283, 3) := by decide +kernel
theorem dX7_digest_39 : decode cX7_digest 39 = .ok (.lload_n 1, 1) := by decide +kernel
theorem dX7_digest_40 : decode cX7_digest 40 = .ok (.lmul, 1) := by decide +kernel
theorem dX7_digest_41 : decode cX7_digest 41 = .ok (.aload_n 0, 1) := by decide +kernel
theorem dX7_digest_42 : decode cX7_digest 42 = .ok (.getfield 7, 3) := by decide +kernel
theorem dX7_digest_45 : decode cX7_digest 45 = .ok (.iload 4, 2) := by decide +kernel
theorem dX7_digest_47 : decode cX7_digest 47 = .ok (.iaload, 1) := by decide +kernel
theorem dX7_digest_48 : decode cX7_digest 48 = .ok (.i2l, 1) := by decide +kernel
theorem dX7_digest_49 : decode cX7_digest 49 = .ok (.ladd, 1) := by decide +kernel
theorem dX7_digest_50 : decode cX7_digest 50 = .ok (.lstore_n 1, 1) := by decide +kernel
theorem dX7_digest_51 : decode cX7_digest 51 = .ok (.ldc2_w 283, 3) := by decide +kernel
theorem dX7_digest_54 : decode cX7_digest 54 = .ok (.lload_n 1, 1) := by decide +kernel
theorem dX7_digest_55 : decode cX7_digest 55 = .ok (.lmul, 1) := by decide +kernel
theorem dX7_digest_56 : decode cX7_digest 56 = .ok (.aload_n 0, 1) := by decide +kernel
theorem dX7_digest_57 : decode cX7_digest 57 = .ok (.getfield 7, 3) := by decide +kernel
theorem dX7_digest_60 : decode cX7_digest 60 = .ok (.iload 4, 2) := by decide +kernel
theorem dX7_digest_62 : decode cX7_digest 62 = .ok (.iconst 1, 1) := by decide +kernel
theorem dX7_digest_63 : decode cX7_digest 63 = .ok (.iadd, 1) := by decide +kernel
theorem dX7_digest_64 : decode cX7_digest 64 = .ok (.iaload, 1) := by decide +kernel
theorem dX7_digest_65 : decode cX7_digest 65 = .ok (.i2l, 1) := by decide +kernel
theorem dX7_digest_66 : decode cX7_digest 66 = .ok (.ladd, 1) := by decide +kernel
theorem dX7_digest_67 : decode cX7_digest 67 = .ok (.lstore_n 1, 1) := by decide +kernel
theorem dX7_digest_68 : decode cX7_digest 68 = .ok (.ldc2_w 283, 3) := by decide +kernel
theorem dX7_digest_71 : decode cX7_digest 71 = .ok (.lload_n 1, 1) := by decide +kernel
theorem dX7_digest_72 : decode cX7_digest 72 = .ok (.lmul, 1) := by decide +kernel
theorem dX7_digest_73 : decode cX7_digest 73 = .ok (.aload_n 0, 1) := by decide +kernel
theorem dX7_digest_74 : decode cX7_digest 74 = .ok (.getfield 7, 3) := by decide +kernel
theorem dX7_digest_77 : decode cX7_digest 77 = .ok (.iload 4, 2) := by decide +kernel
theorem dX7_digest_79 : decode cX7_digest 79 = .ok (.iconst 2, 1) := by decide +kernel
theorem dX7_digest_80 : decode cX7_digest 80 = .ok (.iadd, 1) := by decide +kernel
theorem dX7_digest_81 : decode cX7_digest 81 = .ok (.iaload, 1) := by decide +kernel
theorem dX7_digest_82 : decode cX7_digest 82 = .ok (.i2l, 1) := by decide +kernel
theorem dX7_digest_83 : decode cX7_digest 83 = .ok (.ladd, 1) := by decide +kernel
theorem dX7_digest_84 : decode cX7_digest 84 = .ok (.lstore_n 1, 1) := by decide +kernel
theorem dX7_digest_85 : decode cX7_digest 85 = .ok (.ldc2_w 283, 3) := by decide +kernel
theorem dX7_digest_88 : decode cX7_digest 88 = .ok (.lload_n 1, 1) := by decide +kernel
theorem dX7_digest_89 : decode cX7_digest 89 = .ok (.lmul, 1) := by decide +kernel
theorem dX7_digest_90 : decode cX7_digest 90 = .ok (.aload_n 0, 1) := by decide +kernel
theorem dX7_digest_91 : decode cX7_digest 91 = .ok (.getfield 7, 3) := by decide +kernel
theorem dX7_digest_94 : decode cX7_digest 94 = .ok (.iload 4, 2) := by decide +kernel
theorem dX7_digest_96 : decode cX7_digest 96 = .ok (.iconst 3, 1) := by decide +kernel
theorem dX7_digest_97 : decode cX7_digest 97 = .ok (.iadd, 1) := by decide +kernel
theorem dX7_digest_98 : decode cX7_digest 98 = .ok (.iaload, 1) := by decide +kernel
theorem dX7_digest_99 : decode cX7_digest 99 = .ok (.i2l, 1) := by decide +kernel
theorem dX7_digest_100 : decode cX7_digest 100 = .ok (.ladd, 1) := by decide +kernel
theorem dX7_digest_101 : decode cX7_digest 101 = .ok (.lstore_n 1, 1) := by decide +kernel
theorem dX7_digest_102 : decode cX7_digest 102 = .ok (.ldc2_w 283, 3) := by decide +kernel
theorem dX7_digest_105 : decode cX7_digest 105 = .ok (.lload_n 1, 1) := by decide +kernel
theorem dX7_digest_106 : decode cX7_digest 106 = .ok (.lmul, 1) := by decide +kernel
theorem dX7_digest_107 : decode cX7_digest 107 = .ok (.aload_n 0, 1) := by decide +kernel
theorem dX7_digest_108 : decode cX7_digest 108 = .ok (.iload_n 3, 1) := by decide +kernel
theorem dX7_digest_109 : decode cX7_digest 109 = .ok (.invokevirtual 157, 3) := by decide +kernel
theorem dX7_digest_112 : decode cX7_digest 112 = .ok (.i2l, 1) := by decide +kernel
theorem dX7_digest_113 : decode cX7_digest 113 = .ok (.ladd, 1) := by decide +kernel
theorem dX7_digest_114 : decode cX7_digest 114 = .ok (.lstore_n 1, 1) := by decide +kernel
theorem dX7_digest_115 : decode cX7_digest 115 = .ok (.ldc2_w 283, 3) := by decide +kernel
theorem dX7_digest_118 : decode cX7_digest 118 = .ok (.lload_n 1, 1) := by decide +kernel
theorem dX7_digest_119 : decode cX7_digest 119 = .ok (.lmul, 1) := by decide +kernel
theorem dX7_digest_120 : decode cX7_digest 120 = .ok (.aload_n 0, 1) := by decide +kernel
theorem dX7_digest_121 : decode cX7_digest 121 = .ok (.getfield 7, 3) := by decide +kernel
theorem dX7_digest_124 : decode cX7_digest 124 = .ok (.iload 4, 2) := by decide +kernel
theorem dX7_digest_126 : decode cX7_digest 126 = .ok (.iconst 5, 1) := by decide +kernel
theorem dX7_digest_127 : decode cX7_digest 127 = .ok (.iadd, 1) := by decide +kernel
theorem dX7_digest_128 : decode cX7_digest 128 = .ok (.iaload, 1) := by decide +kernel
theorem dX7_digest_129 : decode cX7_digest 129 = .ok (.i2l, 1) := by decide +kernel
theorem dX7_digest_130 : decode cX7_digest 130 = .ok (.ladd, 1) := by decide +kernel
theorem dX7_digest_131 : decode cX7_digest 131 = .ok (.lstore_n 1, 1) := by decide +kernel
theorem dX7_digest_132 : decode cX7_digest 132 = .ok (.ldc2_w 283, 3) := by decide +kernel
theorem dX7_digest_135 : decode cX7_digest 135 = .ok (.lload_n 1, 1) := by decide +kernel
theorem dX7_digest_136 : decode cX7_digest 136 = .ok (.lmul, 1) := by decide +kernel
theorem dX7_digest_137 : decode cX7_digest 137 = .ok (.aload_n 0, 1) := by decide +kernel
theorem dX7_digest_138 : decode cX7_digest 138 = .ok (.iload_n 3, 1) := by decide +kernel
theorem dX7_digest_139 : decode cX7_digest 139 = .ok (.invokevirtual 215, 3) := by decide +kernel
theorem dX7_digest_142 : decode cX7_digest 142 = .ok (.ifCond .eq 7, 3) := by decide +kernel
theorem dX7_digest_145 : decode cX7_digest 145 = .ok (.iconst 1, 1) := by decide +kernel
theorem dX7_digest_146 : decode cX7_digest 146 = .ok (.goto 4, 3) := by decide +kernel
theorem dX7_digest_149 : decode cX7_digest 149 = .ok (.iconst 0, 1) := by decide +kernel
theorem dX7_digest_150 : decode cX7_digest 150 = .ok (.i2l, 1) := by decide +kernel
theorem dX7_digest_151 : decode cX7_digest 151 = .ok (.ladd, 1) := by decide +kernel
theorem dX7_digest_152 : decode cX7_digest 152 = .ok (.lstore_n 1, 1) := by decide +kernel
theorem dX7_digest_153 : decode cX7_digest 153 = .ok (.ldc2_w 283, 3) := by decide +kernel
theorem dX7_digest_156 : decode cX7_digest 156 = .ok (.lload_n 1, 1) := by decide +kernel
theorem dX7_digest_157 : decode cX7_digest 157 = .ok (.lmul, 1) := by decide +kernel
theorem dX7_digest_158 : decode cX7_digest 158 = .ok (.aload_n 0, 1) := by decide +kernel
theorem dX7_digest_159 : decode cX7_digest 159 = .ok (.iload_n 3, 1) := by decide +kernel
theorem dX7_digest_160 : decode cX7_digest 160 = .ok (.invokevirtual 218, 3) := by decide +kernel
theorem dX7_digest_163 : decode cX7_digest 163 = .ok (.ifCond .eq 7, 3) := by decide +kernel
theorem dX7_digest_166 : decode cX7_digest 166 = .ok (.iconst 1, 1) := by decide +kernel
theorem dX7_digest_167 : decode cX7_digest 167 = .ok (.goto 4, 3) := by decide +kernel
theorem dX7_digest_170 : decode cX7_digest 170 = .ok (.iconst 0, 1) := by decide +kernel
theorem dX7_digest_171 : decode cX7_digest 171 = .ok (.i2l, 1) := by decide +kernel
theorem dX7_digest_172 : decode cX7_digest 172 = .ok (.ladd, 1) := by decide +kernel
theorem dX7_digest_173 : decode cX7_digest 173 = .ok (.lstore_n 1, 1) := by decide +kernel
theorem dX7_digest_174 : decode cX7_digest 174 = .ok (.iinc 3 1, 3) := by decide +kernel
theorem dX7_digest_177 : decode cX7_digest 177 = .ok (.goto (-157), 3) := by decide +kernel
theorem dX7_digest_180 : decode cX7_digest 180 = .ok (.aload_n 0, 1) := by decide +kernel
theorem dX7_digest_181 : decode cX7_digest 181 = .ok (.invokevirtual 160, 3) := by decide +kernel
theorem dX7_digest_184 : decode cX7_digest 184 = .ok (.istore_n 3, 1) := by decide +kernel
theorem dX7_digest_185 : decode cX7_digest 185 = .ok (.ldc2_w 283, 3) := by decide +kernel
theorem dX7_digest_188 : decode cX7_digest 188 = .ok (.lload_n 1, 1) := by decide +kernel
theorem dX7_digest_189 : decode cX7_digest 189 = .ok (.lmul, 1) := by decide +kernel
theorem dX7_digest_190 : decode cX7_digest 190 = .ok (.aload_n 0, 1) := by decide +kernel
theorem dX7_digest_191 : decode cX7_digest 191 = .ok (.getfield 7, 3) := by decide +kernel
theorem dX7_digest_194 : decode cX7_digest 194 = .ok (.iconst 1, 1) := by decide +kernel
theorem dX7_digest_195 : decode cX7_digest 195 = .ok (.iaload, 1) := by decide +kernel
theorem dX7_digest_196 : decode cX7_digest 196 = .ok (.i2l, 1) := by decide +kernel
theorem dX7_digest_197 : decode cX7_digest 197 = .ok (.ladd, 1) := by decide +kernel
theorem dX7_digest_198 : decode cX7_digest 198 = .ok (.lstore_n 1, 1) := by decide +kernel
theorem dX7_digest_199 : decode cX7_digest 199 = .ok (.ldc2_w 283, 3) := by decide +kernel
theorem dX7_digest_202 : decode cX7_digest 202 = .ok (.lload_n 1, 1) := by decide +kernel
theorem dX7_digest_203 : decode cX7_digest 203 = .ok (.lmul, 1) := by decide +kernel
theorem dX7_digest_204 : decode cX7_digest 204 = .ok (.aload_n 0, 1) := by decide +kernel
theorem dX7_digest_205 : decode cX7_digest 205 = .ok (.getfield 7, 3) := by decide +kernel
theorem dX7_digest_208 : decode cX7_digest 208 = .ok (.iconst 2, 1) := by decide +kernel
theorem dX7_digest_209 : decode cX7_digest 209 = .ok (.iaload, 1) := by decide +kernel
theorem dX7_digest_210 : decode cX7_digest 210 = .ok (.i2l, 1) := by decide +kernel
theorem dX7_digest_211 : decode cX7_digest 211 = .ok (.ladd, 1) := by decide +kernel
theorem dX7_digest_212 : decode cX7_digest 212 = .ok (.lstore_n 1, 1) := by decide +kernel
theorem dX7_digest_213 : decode cX7_digest 213 = .ok (.ldc2_w 283, 3) := by decide +kernel
theorem dX7_digest_216 : decode cX7_digest 216 = .ok (.lload_n 1, 1) := by decide +kernel
theorem dX7_digest_217 : decode cX7_digest 217 = .ok (.lmul, 1) := by decide +kernel
theorem dX7_digest_218 : decode cX7_digest 218 = .ok (.iload_n 3, 1) := by decide +kernel
theorem dX7_digest_219 : decode cX7_digest 219 = .ok (.i2l, 1) := by decide +kernel
theorem dX7_digest_220 : decode cX7_digest 220 = .ok (.ladd, 1) := by decide +kernel
theorem dX7_digest_221 : decode cX7_digest 221 = .ok (.lstore_n 1, 1) := by decide +kernel
theorem dX7_digest_222 : decode cX7_digest 222 = .ok (.ldc2_w 283, 3) := by decide +kernel
theorem dX7_digest_225 : decode cX7_digest 225 = .ok (.lload_n 1, 1) := by decide +kernel
theorem dX7_digest_226 : decode cX7_digest 226 = .ok (.lmul, 1) := by decide +kernel
theorem dX7_digest_227 : decode cX7_digest 227 = .ok (.aload_n 0, 1) := by decide +kernel
theorem dX7_digest_228 : decode cX7_digest 228 = .ok (.aload_n 0, 1) := by decide +kernel
theorem dX7_digest_229 : decode cX7_digest 229 = .ok (.getfield 7, 3) := by decide +kernel
theorem dX7_digest_232 : decode cX7_digest 232 = .ok (.iconst 1, 1) := by decide +kernel
theorem dX7_digest_233 : decode cX7_digest 233 = .ok (.iaload, 1) := by decide +kernel
theorem dX7_digest_234 : decode cX7_digest 234 = .ok (.invokevirtual 104, 3) := by decide +kernel
theorem dX7_digest_237 : decode cX7_digest 237 = .ok (.i2l, 1) := by decide +kernel
theorem dX7_digest_238 : decode cX7_digest 238 = .ok (.ladd, 1) := by decide +kernel
theorem dX7_digest_239 : decode cX7_digest 239 = .ok (.lstore_n 1, 1) := by decide +kernel
theorem dX7_digest_240 : decode cX7_digest 240 = .ok (.iconst 0, 1) := by decide +kernel
theorem dX7_digest_241 : decode cX7_digest 241 = .ok (.istore 4, 2) := by decide +kernel
theorem dX7_digest_243 : decode cX7_digest 243 = .ok (.iload 4, 2) := by decide +kernel
theorem dX7_digest_245 : decode cX7_digest 245 = .ok (.bipush 6, 2) := by decide +kernel
theorem dX7_digest_247 : decode cX7_digest 247 = .ok (.if_icmp .ge 37, 3) := by decide +kernel
theorem dX7_digest_250 : decode cX7_digest 250 = .ok (.ldc2_w 283, 3) := by decide +kernel
theorem dX7_digest_253 : decode cX7_digest 253 = .ok (.lload_n 1, 1) := by decide +kernel
theorem dX7_digest_254 : decode cX7_digest 254 = .ok (.lmul, 1) := by decide +kernel
theorem dX7_digest_255 : decode cX7_digest 255 = .ok (.aload_n 0, 1) := by decide +kernel
theorem dX7_digest_256 : decode cX7_digest 256 = .ok (.iload 4, 2) := by decide +kernel
theorem dX7_digest_258 : decode cX7_digest 258 = .ok (.invokevirtual 94, 3) := by decide +kernel
theorem dX7_digest_261 : decode cX7_digest 261 = .ok (.i2l, 1) := by decide +kernel
theorem dX7_digest_262 : decode cX7_digest 262 = .ok (.ladd, 1) := by decide +kernel
theorem dX7_digest_263 : decode cX7_digest 263 = .ok (.lstore_n 1, 1) := by decide +kernel
theorem dX7_digest_264 : decode cX7_digest 264 = .ok (.ldc2_w 283, 3) := by decide +kernel
theorem dX7_digest_267 : decode cX7_digest 267 = .ok (.lload_n 1, 1) := by decide +kernel
theorem dX7_digest_268 : decode cX7_digest 268 = .ok (.lmul, 1) := by decide +kernel
theorem dX7_digest_269 : decode cX7_digest 269 = .ok (.aload_n 0, 1) := by decide +kernel
theorem dX7_digest_270 : decode cX7_digest 270 = .ok (.iload 4, 2) := by decide +kernel
theorem dX7_digest_272 : decode cX7_digest 272 = .ok (.invokevirtual 212, 3) := by decide +kernel
theorem dX7_digest_275 : decode cX7_digest 275 = .ok (.i2l, 1) := by decide +kernel
theorem dX7_digest_276 : decode cX7_digest 276 = .ok (.ladd, 1) := by decide +kernel
theorem dX7_digest_277 : decode cX7_digest 277 = .ok (.lstore_n 1, 1) := by decide +kernel
theorem dX7_digest_278 : decode cX7_digest 278 = .ok (.iinc 4 1, 3) := by decide +kernel
theorem dX7_digest_281 : decode cX7_digest 281 = .ok (.goto (-38), 3) := by decide +kernel
theorem dX7_digest_284 : decode cX7_digest 284 = .ok (.ldc2_w 283, 3) := by decide +kernel
theorem dX7_digest_287 : decode cX7_digest 287 = .ok (.lload_n 1, 1) := by decide +kernel
theorem dX7_digest_288 : decode cX7_digest 288 = .ok (.lmul, 1) := by decide +kernel
theorem dX7_digest_289 : decode cX7_digest 289 = .ok (.aload_n 0, 1) := by decide +kernel
theorem dX7_digest_290 : decode cX7_digest 290 = .ok (.getfield 7, 3) := by decide +kernel
theorem dX7_digest_293 : decode cX7_digest 293 = .ok (.iconst 3, 1) := by decide +kernel
theorem dX7_digest_294 : decode cX7_digest 294 = .ok (.iaload, 1) := by decide +kernel
theorem dX7_digest_295 : decode cX7_digest 295 = .ok (.i2l, 1) := by decide +kernel
theorem dX7_digest_296 : decode cX7_digest 296 = .ok (.ladd, 1) := by decide +kernel
theorem dX7_digest_297 : decode cX7_digest 297 = .ok (.lstore_n 1, 1) := by decide +kernel
theorem dX7_digest_298 : decode cX7_digest 298 = .ok (.ldc2_w 283, 3) := by decide +kernel
theorem dX7_digest_301 : decode cX7_digest 301 = .ok (.lload_n 1, 1) := by decide +kernel
theorem dX7_digest_302 : decode cX7_digest 302 = .ok (.lmul, 1) := by decide +kernel
theorem dX7_digest_303 : decode cX7_digest 303 = .ok (.aload_n 0, 1) := by decide +kernel
theorem dX7_digest_304 : decode cX7_digest 304 = .ok (.invokevirtual 164, 3) := by decide +kernel
theorem dX7_digest_307 : decode cX7_digest 307 = .ok (.i2l, 1) := by decide +kernel
theorem dX7_digest_308 : decode cX7_digest 308 = .ok (.ladd, 1) := by decide +kernel
theorem dX7_digest_309 : decode cX7_digest 309 = .ok (.lstore_n 1, 1) := by decide +kernel
theorem dX7_digest_310 : decode cX7_digest 310 = .ok (.ldc2_w 283, 3) := by decide +kernel
theorem dX7_digest_313 : decode cX7_digest 313 = .ok (.lload_n 1, 1) := by decide +kernel
theorem dX7_digest_314 : decode cX7_digest 314 = .ok (.lmul, 1) := by decide +kernel
theorem dX7_digest_315 : decode cX7_digest 315 = .ok (.aload_n 0, 1) := by decide +kernel
theorem dX7_digest_316 : decode cX7_digest 316 = .ok (.iload_n 3, 1) := by decide +kernel
theorem dX7_digest_317 : decode cX7_digest 317 = .ok (.invokevirtual 189, 3) := by decide +kernel
theorem dX7_digest_320 : decode cX7_digest 320 = .ok (.ifCond .eq 7, 3) := by decide +kernel
theorem dX7_digest_323 : decode cX7_digest 323 = .ok (.iconst 1, 1) := by decide +kernel
theorem dX7_digest_324 : decode cX7_digest 324 = .ok (.goto 4, 3) := by decide +kernel
theorem dX7_digest_327 : decode cX7_digest 327 = .ok (.iconst 0, 1) := by decide +kernel
theorem dX7_digest_328 : decode cX7_digest 328 = .ok (.i2l, 1) := by decide +kernel
theorem dX7_digest_329 : decode cX7_digest 329 = .ok (.ladd, 1) := by decide +kernel
theorem dX7_digest_330 : decode cX7_digest 330 = .ok (.lstore_n 1, 1) := by decide +kernel
theorem dX7_digest_331 : decode cX7_digest 331 = .ok (.ldc2_w 283, 3) := by decide +kernel
theorem dX7_digest_334 : decode cX7_digest 334 = .ok (.lload_n 1, 1) := by decide +kernel
theorem dX7_digest_335 : decode cX7_digest 335 = .ok (.lmul, 1) := by decide +kernel
theorem dX7_digest_336 : decode cX7_digest 336 = .ok (.aload_n 0, 1) := by decide +kernel
theorem dX7_digest_337 : decode cX7_digest 337 = .ok (.iload_n 3, 1) := by decide +kernel
theorem dX7_digest_338 : decode cX7_digest 338 = .ok (.invokevirtual 192, 3) := by decide +kernel
theorem dX7_digest_341 : decode cX7_digest 341 = .ok (.ifCond .eq 7, 3) := by decide +kernel
theorem dX7_digest_344 : decode cX7_digest 344 = .ok (.iconst 1, 1) := by decide +kernel
theorem dX7_digest_345 : decode cX7_digest 345 = .ok (.goto 4, 3) := by decide +kernel
theorem dX7_digest_348 : decode cX7_digest 348 = .ok (.iconst 0, 1) := by decide +kernel
theorem dX7_digest_349 : decode cX7_digest 349 = .ok (.i2l, 1) := by decide +kernel
theorem dX7_digest_350 : decode cX7_digest 350 = .ok (.ladd, 1) := by decide +kernel
theorem dX7_digest_351 : decode cX7_digest 351 = .ok (.lstore_n 1, 1) := by decide +kernel
theorem dX7_digest_352 : decode cX7_digest 352 = .ok (.ldc2_w 283, 3) := by decide +kernel
theorem dX7_digest_355 : decode cX7_digest 355 = .ok (.lload_n 1, 1) := by decide +kernel
theorem dX7_digest_356 : decode cX7_digest 356 = .ok (.lmul, 1) := by decide +kernel
theorem dX7_digest_357 : decode cX7_digest 357 = .ok (.aload_n 0, 1) := by decide +kernel
theorem dX7_digest_358 : decode cX7_digest 358 = .ok (.iload_n 3, 1) := by decide +kernel
theorem dX7_digest_359 : decode cX7_digest 359 = .ok (.invokevirtual 195, 3) := by decide +kernel
theorem dX7_digest_362 : decode cX7_digest 362 = .ok (.ifCond .eq 7, 3) := by decide +kernel
theorem dX7_digest_365 : decode cX7_digest 365 = .ok (.iconst 1, 1) := by decide +kernel
theorem dX7_digest_366 : decode cX7_digest 366 = .ok (.goto 4, 3) := by decide +kernel
theorem dX7_digest_369 : decode cX7_digest 369 = .ok (.iconst 0, 1) := by decide +kernel
theorem dX7_digest_370 : decode cX7_digest 370 = .ok (.i2l, 1) := by decide +kernel
theorem dX7_digest_371 : decode cX7_digest 371 = .ok (.ladd, 1) := by decide +kernel
theorem dX7_digest_372 : decode cX7_digest 372 = .ok (.lstore_n 1, 1) := by decide +kernel
theorem dX7_digest_373 : decode cX7_digest 373 = .ok (.ldc2_w 283, 3) := by decide +kernel
theorem dX7_digest_376 : decode cX7_digest 376 = .ok (.lload_n 1, 1) := by decide +kernel
theorem dX7_digest_377 : decode cX7_digest 377 = .ok (.lmul, 1) := by decide +kernel
theorem dX7_digest_378 : decode cX7_digest 378 = .ok (.aload_n 0, 1) := by decide +kernel
theorem dX7_digest_379 : decode cX7_digest 379 = .ok (.iload_n 3, 1) := by decide +kernel
theorem dX7_digest_380 : decode cX7_digest 380 = .ok (.invokevirtual 183, 3) := by decide +kernel
theorem dX7_digest_383 : decode cX7_digest 383 = .ok (.i2l, 1) := by decide +kernel
theorem dX7_digest_384 : decode cX7_digest 384 = .ok (.ladd, 1) := by decide +kernel
theorem dX7_digest_385 : decode cX7_digest 385 = .ok (.lstore_n 1, 1) := by decide +kernel
theorem dX7_digest_386 : decode cX7_digest 386 = .ok (.ldc2_w 283, 3) := by decide +kernel
theorem dX7_digest_389 : decode cX7_digest 389 = .ok (.lload_n 1, 1) := by decide +kernel
theorem dX7_digest_390 : decode cX7_digest 390 = .ok (.lmul, 1) := by decide +kernel
theorem dX7_digest_391 : decode cX7_digest 391 = .ok (.aload_n 0, 1) := by decide +kernel
theorem dX7_digest_392 : decode cX7_digest 392 = .ok (.invokevirtual 198, 3) := by decide +kernel
theorem dX7_digest_395 : decode cX7_digest 395 = .ok (.invokestatic 202, 3) := by decide +kernel
theorem dX7_digest_398 : decode cX7_digest 398 = .ok (.i2l, 1) := by decide +kernel
theorem dX7_digest_399 : decode cX7_digest 399 = .ok (.ladd, 1) := by decide +kernel
theorem dX7_digest_400 : decode cX7_digest 400 = .ok (.lstore_n 1, 1) := by decide +kernel
theorem dX7_digest_401 : decode cX7_digest 401 = .ok (.ldc2_w 283, 3) := by decide +kernel
theorem dX7_digest_404 : decode cX7_digest 404 = .ok (.lload_n 1, 1) := by decide +kernel
theorem dX7_digest_405 : decode cX7_digest 405 = .ok (.lmul, 1) := by decide +kernel
theorem dX7_digest_406 : decode cX7_digest 406 = .ok (.aload_n 0, 1) := by decide +kernel
theorem dX7_digest_407 : decode cX7_digest 407 = .ok (.invokevirtual 206, 3) := by decide +kernel
theorem dX7_digest_410 : decode cX7_digest 410 = .ok (.i2l, 1) := by decide +kernel
theorem dX7_digest_411 : decode cX7_digest 411 = .ok (.ladd, 1) := by decide +kernel
theorem dX7_digest_412 : decode cX7_digest 412 = .ok (.lstore_n 1, 1) := by decide +kernel
theorem dX7_digest_413 : decode cX7_digest 413 = .ok (.ldc2_w 283, 3) := by decide +kernel
theorem dX7_digest_416 : decode cX7_digest 416 = .ok (.lload_n 1, 1) := by decide +kernel
theorem dX7_digest_417 : decode cX7_digest 417 = .ok (.lmul, 1) := by decide +kernel
theorem dX7_digest_418 : decode cX7_digest 418 = .ok (.aload_n 0, 1) := by decide +kernel
theorem dX7_digest_419 : decode cX7_digest 419 = .ok (.aload_n 0, 1) := by decide +kernel
theorem dX7_digest_420 : decode cX7_digest 420 = .ok (.invokevirtual 198, 3) := by decide +kernel
theorem dX7_digest_423 : decode cX7_digest 423 = .ok (.invokevirtual 209, 3) := by decide +kernel
theorem dX7_digest_426 : decode cX7_digest 426 = .ok (.i2l, 1) := by decide +kernel
theorem dX7_digest_427 : decode cX7_digest 427 = .ok (.ladd, 1) := by decide +kernel
theorem dX7_digest_428 : decode cX7_digest 428 = .ok (.lstore_n 1, 1) := by decide +kernel
theorem dX7_digest_429 : decode cX7_digest 429 = .ok (.ldc2_w 283, 3) := by decide +kernel
theorem dX7_digest_432 : decode cX7_digest 432 = .ok (.lload_n 1, 1) := by decide +kernel
theorem dX7_digest_433 : decode cX7_digest 433 = .ok (.lmul, 1) := by decide +kernel
theorem dX7_digest_434 : decode cX7_digest 434 = .ok (.aload_n 0, 1) := by decide +kernel
theorem dX7_digest_435 : decode cX7_digest 435 = .ok (.invokevirtual 227, 3) := by decide +kernel
theorem dX7_digest_438 : decode cX7_digest 438 = .ok (.i2l, 1) := by decide +kernel
theorem dX7_digest_439 : decode cX7_digest 439 = .ok (.ladd, 1) := by decide +kernel
theorem dX7_digest_440 : decode cX7_digest 440 = .ok (.lstore_n 1, 1) := by decide +kernel
theorem dX7_digest_441 : decode cX7_digest 441 = .ok (.ldc2_w 283, 3) := by decide +kernel
theorem dX7_digest_444 : decode cX7_digest 444 = .ok (.lload_n 1, 1) := by decide +kernel
theorem dX7_digest_445 : decode cX7_digest 445 = .ok (.lmul, 1) := by decide +kernel
theorem dX7_digest_446 : decode cX7_digest 446 = .ok (.aload_n 0, 1) := by decide +kernel
theorem dX7_digest_447 : decode cX7_digest 447 = .ok (.invokevirtual 230, 3) := by decide +kernel
theorem dX7_digest_450 : decode cX7_digest 450 = .ok (.i2l, 1) := by decide +kernel
theorem dX7_digest_451 : decode cX7_digest 451 = .ok (.ladd, 1) := by decide +kernel
theorem dX7_digest_452 : decode cX7_digest 452 = .ok (.lstore_n 1, 1) := by decide +kernel
theorem dX7_digest_453 : decode cX7_digest 453 = .ok (.ldc2_w 283, 3) := by decide +kernel
theorem dX7_digest_456 : decode cX7_digest 456 = .ok (.lload_n 1, 1) := by decide +kernel
theorem dX7_digest_457 : decode cX7_digest 457 = .ok (.lmul, 1) := by decide +kernel
theorem dX7_digest_458 : decode cX7_digest 458 = .ok (.aload_n 0, 1) := by decide +kernel
theorem dX7_digest_459 : decode cX7_digest 459 = .ok (.invokevirtual 233, 3) := by decide +kernel
theorem dX7_digest_462 : decode cX7_digest 462 = .ok (.i2l, 1) := by decide +kernel
theorem dX7_digest_463 : decode cX7_digest 463 = .ok (.ladd, 1) := by decide +kernel
theorem dX7_digest_464 : decode cX7_digest 464 = .ok (.lstore_n 1, 1) := by decide +kernel
theorem dX7_digest_465 : decode cX7_digest 465 = .ok (.ldc2_w 283, 3) := by decide +kernel
theorem dX7_digest_468 : decode cX7_digest 468 = .ok (.lload_n 1, 1) := by decide +kernel
theorem dX7_digest_469 : decode cX7_digest 469 = .ok (.lmul, 1) := by decide +kernel
theorem dX7_digest_470 : decode cX7_digest 470 = .ok (.aload_n 0, 1) := by decide +kernel
theorem dX7_digest_471 : decode cX7_digest 471 = .ok (.invokevirtual 239, 3) := by decide +kernel
theorem dX7_digest_474 : decode cX7_digest 474 = .ok (.i2l, 1) := by decide +kernel
theorem dX7_digest_475 : decode cX7_digest 475 = .ok (.ladd, 1) := by decide +kernel
theorem dX7_digest_476 : decode cX7_digest 476 = .ok (.lstore_n 1, 1) := by decide +kernel
theorem dX7_digest_477 : decode cX7_digest 477 = .ok (.ldc2_w 283, 3) := by decide +kernel
theorem dX7_digest_480 : decode cX7_digest 480 = .ok (.lload_n 1, 1) := by decide +kernel
theorem dX7_digest_481 : decode cX7_digest 481 = .ok (.lmul, 1) := by decide +kernel
theorem dX7_digest_482 : decode cX7_digest 482 = .ok (.aload_n 0, 1) := by decide +kernel
theorem dX7_digest_483 : decode cX7_digest 483 = .ok (.invokevirtual 242, 3) := by decide +kernel
theorem dX7_digest_486 : decode cX7_digest 486 = .ok (.i2l, 1) := by decide +kernel
theorem dX7_digest_487 : decode cX7_digest 487 = .ok (.ladd, 1) := by decide +kernel
theorem dX7_digest_488 : decode cX7_digest 488 = .ok (.lstore_n 1, 1) := by decide +kernel
theorem dX7_digest_489 : decode cX7_digest 489 = .ok (.ldc2_w 283, 3) := by decide +kernel
theorem dX7_digest_492 : decode cX7_digest 492 = .ok (.lload_n 1, 1) := by decide +kernel
theorem dX7_digest_493 : decode cX7_digest 493 = .ok (.lmul, 1) := by decide +kernel
theorem dX7_digest_494 : decode cX7_digest 494 = .ok (.aload_n 0, 1) := by decide +kernel
theorem dX7_digest_495 : decode cX7_digest 495 = .ok (.invokevirtual 245, 3) := by decide +kernel
theorem dX7_digest_498 : decode cX7_digest 498 = .ok (.i2l, 1) := by decide +kernel
theorem dX7_digest_499 : decode cX7_digest 499 = .ok (.ladd, 1) := by decide +kernel
theorem dX7_digest_500 : decode cX7_digest 500 = .ok (.lstore_n 1, 1) := by decide +kernel
theorem dX7_digest_501 : decode cX7_digest 501 = .ok (.ldc2_w 283, 3) := by decide +kernel
theorem dX7_digest_504 : decode cX7_digest 504 = .ok (.lload_n 1, 1) := by decide +kernel
theorem dX7_digest_505 : decode cX7_digest 505 = .ok (.lmul, 1) := by decide +kernel
theorem dX7_digest_506 : decode cX7_digest 506 = .ok (.aload_n 0, 1) := by decide +kernel
theorem dX7_digest_507 : decode cX7_digest 507 = .ok (.invokevirtual 248, 3) := by decide +kernel
theorem dX7_digest_510 : decode cX7_digest 510 = .ok (.i2l, 1) := by decide +kernel
theorem dX7_digest_511 : decode cX7_digest 511 = .ok (.ladd, 1) := by decide +kernel
theorem dX7_digest_512 : decode cX7_digest 512 = .ok (.lstore_n 1, 1) := by decide +kernel
theorem dX7_digest_513 : decode cX7_digest 513 = .ok (.ldc2_w 283, 3) := by decide +kernel
theorem dX7_digest_516 : decode cX7_digest 516 = .ok (.lload_n 1, 1) := by decide +kernel
theorem dX7_digest_517 : decode cX7_digest 517 = .ok (.lmul, 1) := by decide +kernel
theorem dX7_digest_518 : decode cX7_digest 518 = .ok (.aload_n 0, 1) := by decide +kernel
theorem dX7_digest_519 : decode cX7_digest 519 = .ok (.invokevirtual 251, 3) := by decide +kernel
theorem dX7_digest_522 : decode cX7_digest 522 = .ok (.i2l, 1) := by decide +kernel
theorem dX7_digest_523 : decode cX7_digest 523 = .ok (.ladd, 1) := by decide +kernel
theorem dX7_digest_524 : decode cX7_digest 524 = .ok (.lstore_n 1, 1) := by decide +kernel
theorem dX7_digest_525 : decode cX7_digest 525 = .ok (.ldc2_w 283, 3) := by decide +kernel
theorem dX7_digest_528 : decode cX7_digest 528 = .ok (.lload_n 1, 1) := by decide +kernel
theorem dX7_digest_529 : decode cX7_digest 529 = .ok (.lmul, 1) := by decide +kernel
theorem dX7_digest_530 : decode cX7_digest 530 = .ok (.aload_n 0, 1) := by decide +kernel
theorem dX7_digest_531 : decode cX7_digest 531 = .ok (.aload_n 0, 1) := by decide +kernel
theorem dX7_digest_532 : decode cX7_digest 532 = .ok (.getfield 7, 3) := by decide +kernel
theorem dX7_digest_535 : decode cX7_digest 535 = .ok (.iconst 1, 1) := by decide +kernel
theorem dX7_digest_536 : decode cX7_digest 536 = .ok (.iaload, 1) := by decide +kernel
theorem dX7_digest_537 : decode cX7_digest 537 = .ok (.invokevirtual 254, 3) := by decide +kernel
theorem dX7_digest_540 : decode cX7_digest 540 = .ok (.i2l, 1) := by decide +kernel
theorem dX7_digest_541 : decode cX7_digest 541 = .ok (.ladd, 1) := by decide +kernel
theorem dX7_digest_542 : decode cX7_digest 542 = .ok (.lstore_n 1, 1) := by decide +kernel
theorem dX7_digest_543 : decode cX7_digest 543 = .ok (.ldc2_w 283, 3) := by decide +kernel
theorem dX7_digest_546 : decode cX7_digest 546 = .ok (.lload_n 1, 1) := by decide +kernel
theorem dX7_digest_547 : decode cX7_digest 547 = .ok (.lmul, 1) := by decide +kernel
theorem dX7_digest_548 : decode cX7_digest 548 = .ok (.aload_n 0, 1) := by decide +kernel
theorem dX7_digest_549 : decode cX7_digest 549 = .ok (.invokevirtual 257, 3) := by decide +kernel
theorem dX7_digest_552 : decode cX7_digest 552 = .ok (.i2l, 1) := by decide +kernel
theorem dX7_digest_553 : decode cX7_digest 553 = .ok (.ladd, 1) := by decide +kernel
theorem dX7_digest_554 : decode cX7_digest 554 = .ok (.lstore_n 1, 1) := by decide +kernel
theorem dX7_digest_555 : decode cX7_digest 555 = .ok (.ldc2_w 283, 3) := by decide +kernel
theorem dX7_digest_558 : decode cX7_digest 558 = .ok (.lload_n 1, 1) := by decide +kernel
theorem dX7_digest_559 : decode cX7_digest 559 = .ok (.lmul, 1) := by decide +kernel
theorem dX7_digest_560 : decode cX7_digest 560 = .ok (.aload_n 0, 1) := by decide +kernel
theorem dX7_digest_561 : decode cX7_digest 561 = .ok (.aload_n 0, 1) := by decide +kernel
theorem dX7_digest_562 : decode cX7_digest 562 = .ok (.invokevirtual 257, 3) := by decide +kernel
theorem dX7_digest_565 : decode cX7_digest 565 = .ok (.invokevirtual 254, 3) := by decide +kernel
theorem dX7_digest_568 : decode cX7_digest 568 = .ok (.i2l, 1) := by decide +kernel
theorem dX7_digest_569 : decode cX7_digest 569 = .ok (.ladd, 1) := by decide +kernel
theorem dX7_digest_570 : decode cX7_digest 570 = .ok (.lstore_n 1, 1) := by decide +kernel
theorem dX7_digest_571 : decode cX7_digest 571 = .ok (.ldc2_w 283, 3) := by decide +kernel
theorem dX7_digest_574 : decode cX7_digest 574 = .ok (.lload_n 1, 1) := by decide +kernel
theorem dX7_digest_575 : decode cX7_digest 575 = .ok (.lmul, 1) := by decide +kernel
theorem dX7_digest_576 : decode cX7_digest 576 = .ok (.aload_n 0, 1) := by decide +kernel
theorem dX7_digest_577 : decode cX7_digest 577 = .ok (.invokevirtual 260, 3) := by decide +kernel
theorem dX7_digest_580 : decode cX7_digest 580 = .ok (.i2l, 1) := by decide +kernel
theorem dX7_digest_581 : decode cX7_digest 581 = .ok (.ladd, 1) := by decide +kernel
theorem dX7_digest_582 : decode cX7_digest 582 = .ok (.lstore_n 1, 1) := by decide +kernel
theorem dX7_digest_583 : decode cX7_digest 583 = .ok (.ldc2_w 283, 3) := by decide +kernel
theorem dX7_digest_586 : decode cX7_digest 586 = .ok (.lload_n 1, 1) := by decide +kernel
theorem dX7_digest_587 : decode cX7_digest 587 = .ok (.lmul, 1) := by decide +kernel
theorem dX7_digest_588 : decode cX7_digest 588 = .ok (.aload_n 0, 1) := by decide +kernel
theorem dX7_digest_589 : decode cX7_digest 589 = .ok (.bipush 9, 2) := by decide +kernel
theorem dX7_digest_591 : decode cX7_digest 591 = .ok (.invokevirtual 263, 3) := by decide +kernel
theorem dX7_digest_594 : decode cX7_digest 594 = .ok (.i2l, 1) := by decide +kernel
theorem dX7_digest_595 : decode cX7_digest 595 = .ok (.ladd, 1) := by decide +kernel
theorem dX7_digest_596 : decode cX7_digest 596 = .ok (.lstore_n 1, 1) := by decide +kernel
theorem dX7_digest_597 : decode cX7_digest 597 = .ok (.ldc2_w 283, 3) := by decide +kernel
theorem dX7_digest_600 : decode cX7_digest 600 = .ok (.lload_n 1, 1) := by decide +kernel
theorem dX7_digest_601 : decode cX7_digest 601 = .ok (.lmul, 1) := by decide +kernel
theorem dX7_digest_602 : decode cX7_digest 602 = .ok (.aload_n 0, 1) := by decide +kernel
theorem dX7_digest_603 : decode cX7_digest 603 = .ok (.getfield 35, 3) := by decide +kernel
theorem dX7_digest_606 : decode cX7_digest 606 = .ok (.i2l, 1) := by decide +kernel
theorem dX7_digest_607 : decode cX7_digest 607 = .ok (.ladd, 1) := by decide +kernel
theorem dX7_digest_608 : decode cX7_digest 608 = .ok (.lstore_n 1, 1) := by decide +kernel
theorem dX7_digest_609 : decode cX7_digest 609 = .ok (.ldc2_w 283, 3) := by decide +kernel
theorem dX7_digest_612 : decode cX7_digest 612 = .ok (.lload_n 1, 1) := by decide +kernel
theorem dX7_digest_613 : decode cX7_digest 613 = .ok (.lmul, 1) := by decide +kernel
theorem dX7_digest_614 : decode cX7_digest 614 = .ok (.aload_n 0, 1) := by decide +kernel
theorem dX7_digest_615 : decode cX7_digest 615 = .ok (.invokevirtual 206, 3) := by decide +kernel
theorem dX7_digest_618 : decode cX7_digest 618 = .ok (.invokestatic 285, 3) := by decide +kernel
theorem dX7_digest_621 : decode cX7_digest 621 = .ok (.ladd, 1) := by decide +kernel
theorem dX7_digest_622 : decode cX7_digest 622 = .ok (.lstore_n 1, 1) := by decide +kernel
theorem dX7_digest_623 : decode cX7_digest 623 = .ok (.ldc2_w 283, 3) := by decide +kernel
theorem dX7_digest_626 : decode cX7_digest 626 = .ok (.lload_n 1, 1) := by decide +kernel
theorem dX7_digest_627 : decode cX7_digest 627 = .ok (.lmul, 1) := by decide +kernel
theorem dX7_digest_628 : decode cX7_digest 628 = .ok (.aload_n 0, 1) := by decide +kernel
theorem dX7_digest_629 : decode cX7_digest 629 = .ok (.invokevirtual 268, 3) := by decide +kernel
theorem dX7_digest_632 : decode cX7_digest 632 = .ok (.aload_n 0, 1) := by decide +kernel
theorem dX7_digest_633 : decode cX7_digest 633 = .ok (.getfield 7, 3) := by decide +kernel
theorem dX7_digest_636 : decode cX7_digest 636 = .ok (.iconst 0, 1) := by decide +kernel
theorem dX7_digest_637 : decode cX7_digest 637 = .ok (.iaload, 1) := by decide +kernel
theorem dX7_digest_638 : decode cX7_digest 638 = .ok (.invokestatic 288, 3) := by decide +kernel
theorem dX7_digest_641 : decode cX7_digest 641 = .ok (.i2l, 1) := by decide +kernel
theorem dX7_digest_642 : decode cX7_digest 642 = .ok (.ladd, 1) := by decide +kernel
theorem dX7_digest_643 : decode cX7_digest 643 = .ok (.lstore_n 1, 1) := by decide +kernel
theorem dX7_digest_644 : decode cX7_digest 644 = .ok (.ldc2_w 283, 3) := by decide +kernel
theorem dX7_digest_647 : decode cX7_digest 647 = .ok (.lload_n 1, 1) := by decide +kernel
theorem dX7_digest_648 : decode cX7_digest 648 = .ok (.lmul, 1) := by decide +kernel
theorem dX7_digest_649 : decode cX7_digest 649 = .ok (.aload_n 0, 1) := by decide +kernel
theorem dX7_digest_650 : decode cX7_digest 650 = .ok (.getfield 150, 3) := by decide +kernel
theorem dX7_digest_653 : decode cX7_digest 653 = .ok (.ifCond .eq 7, 3) := by decide +kernel
theorem dX7_digest_656 : decode cX7_digest 656 = .ok (.iconst 1, 1) := by decide +kernel
theorem dX7_digest_657 : decode cX7_digest 657 = .ok (.goto 4, 3) := by decide +kernel
theorem dX7_digest_660 : decode cX7_digest 660 = .ok (.iconst 0, 1) := by decide +kernel
theorem dX7_digest_661 : decode cX7_digest 661 = .ok (.i2l, 1) := by decide +kernel
theorem dX7_digest_662 : decode cX7_digest 662 = .ok (.ladd, 1) := by decide +kernel
theorem dX7_digest_663 : decode cX7_digest 663 = .ok (.lstore_n 1, 1) := by decide +kernel
theorem dX7_digest_664 : decode cX7_digest 664 = .ok (.ldc2_w 283, 3) := by decide +kernel
theorem dX7_digest_667 : decode cX7_digest 667 = .ok (.lload_n 1, 1) := by decide +kernel
theorem dX7_digest_668 : decode cX7_digest 668 = .ok (.lmul, 1) := by decide +kernel
theorem dX7_digest_669 : decode cX7_digest 669 = .ok (.aload_n 0, 1) := by decide +kernel
theorem dX7_digest_670 : decode cX7_digest 670 = .ok (.getfield 113, 3) := by decide +kernel
theorem dX7_digest_673 : decode cX7_digest 673 = .ok (.i2l, 1) := by decide +kernel
theorem dX7_digest_674 : decode cX7_digest 674 = .ok (.ladd, 1) := by decide +kernel
theorem dX7_digest_675 : decode cX7_digest 675 = .ok (.lstore_n 1, 1) := by decide +kernel
theorem dX7_digest_676 : decode cX7_digest 676 = .ok (.iconst 0, 1) := by decide +kernel
theorem dX7_digest_677 : decode cX7_digest 677 = .ok (.istore 4, 2) := by decide +kernel
theorem dX7_digest_679 : decode cX7_digest 679 = .ok (.iload 4, 2) := by decide +kernel
theorem dX7_digest_681 : decode cX7_digest 681 = .ok (.aload_n 0, 1) := by decide +kernel
theorem dX7_digest_682 : decode cX7_digest 682 = .ok (.getfield 113, 3) := by decide +kernel
theorem dX7_digest_685 : decode cX7_digest 685 = .ok (.if_icmp .ge 24, 3) := by decide +kernel
theorem dX7_digest_688 : decode cX7_digest 688 = .ok (.ldc2_w 283, 3) := by decide +kernel
theorem dX7_digest_691 : decode cX7_digest 691 = .ok (.lload_n 1, 1) := by decide +kernel
theorem dX7_digest_692 : decode cX7_digest 692 = .ok (.lmul, 1) := by decide +kernel
theorem dX7_digest_693 : decode cX7_digest 693 = .ok (.aload_n 0, 1) := by decide +kernel
theorem dX7_digest_694 : decode cX7_digest 694 = .ok (.getfield 13, 3) := by decide +kernel
theorem dX7_digest_697 : decode cX7_digest 697 = .ok (.iload 4, 2) := by decide +kernel
theorem dX7_digest_699 : decode cX7_digest 699 = .ok (.caload, 1) := by decide +kernel
theorem dX7_digest_700 : decode cX7_digest 700 = .ok (.i2l, 1) := by decide +kernel
theorem dX7_digest_701 : decode cX7_digest 701 = .ok (.ladd, 1) := by decide +kernel
theorem dX7_digest_702 : decode cX7_digest 702 = .ok (.lstore_n 1, 1) := by decide +kernel
theorem dX7_digest_703 : decode cX7_digest 703 = .ok (.iinc 4 1, 3) := by decide +kernel
theorem dX7_digest_706 : decode cX7_digest 706 = .ok (.goto (-27), 3) := by decide +kernel
theorem dX7_digest_709 : decode cX7_digest 709 = .ok (.aload_n 0, 1) := by decide +kernel
theorem dX7_digest_710 : decode cX7_digest 710 = .ok (.iconst 0, 1) := by decide +kernel
theorem dX7_digest_711 : decode cX7_digest 711 = .ok (.putfield 31, 3) := by decide +kernel
theorem dX7_digest_714 : decode cX7_digest 714 = .ok (.lload_n 1, 1) := by decide +kernel
theorem dX7_digest_715 : decode cX7_digest 715 = .ok (.lreturn, 1) := by decide +kernel
theorem dJ6_compare_7cf53_0 : decode cJ6_compare_7cf53 0 = .ok (.iload_n 0, 1) := by decide +kernel
theorem dJ6_compare_7cf53_1 : decode cJ6_compare_7cf53 1 = .ok (.iload_n 1, 1) := by decide +kernel
theorem dJ6_compare_7cf53_2 : decode cJ6_compare_7cf53 2 = .ok (.if_icmp .ge 7, 3) := by decide +kernel
theorem dJ6_compare_7cf53_5 : decode cJ6_compare_7cf53 5 = .ok (.iconst (-1), 1) := by decide +kernel
theorem dJ6_compare_7cf53_6 : decode cJ6_compare_7cf53 6 = .ok (.goto 13, 3) := by decide +kernel
theorem dJ6_compare_7cf53_9 : decode cJ6_compare_7cf53 9 = .ok (.iload_n 0, 1) := by decide +kernel
theorem dJ6_compare_7cf53_10 : decode cJ6_compare_7cf53 10 = .ok (.iload_n 1, 1) := by decide +kernel
theorem dJ6_compare_7cf53_11 : decode cJ6_compare_7cf53 11 = .ok (.if_icmp .ne 7, 3) := by decide +kernel
theorem dJ6_compare_7cf53_14 : decode cJ6_compare_7cf53 14 = .ok (.iconst 0, 1) := by decide +kernel
theorem dJ6_compare_7cf53_15 : decode cJ6_compare_7cf53 15 = .ok (.goto 4, 3) := by decide +kernel
theorem dJ6_compare_7cf53_18 : decode cJ6_compare_7cf53 18 = .ok (.iconst 1, 1) := by decide +kernel
theorem dJ6_compare_7cf53_19 : decode cJ6_compare_7cf53 19 = .ok (.ireturn, 1) := by decide +kernel
theorem dJ6_bitCount_0f7a4_0 : decode cJ6_bitCount_0f7a4 0 = .ok (.iload_n 0, 1) := by decide +kernel
theorem dJ6_bitCount_0f7a4_1 : decode cJ6_bitCount_0f7a4 1 = .ok (.iload_n 0, 1) := by decide +kernel
theorem dJ6_bitCount_0f7a4_2 : decode cJ6_bitCount_0f7a4 2 = .ok (.iconst 1, 1) := by decide +kernel
theorem dJ6_bitCount_0f7a4_3 : decode cJ6_bitCount_0f7a4 3 = .ok (.iushr, 1) := by decide +kernel
theorem dJ6_bitCount_0f7a4_4 : decode cJ6_bitCount_0f7a4 4 = .ok (.ldc_w 265, 3) := by decide +kernel
theorem dJ6_bitCount_0f7a4_7 : decode cJ6_bitCount_0f7a4 7 = .ok (.iand, 1) := by decide +kernel
theorem dJ6_bitCount_0f7a4_8 : decode cJ6_bitCount_0f7a4 8 = .ok (.isub, 1) := by decide +kernel
theorem dJ6_bitCount_0f7a4_9 : decode cJ6_bitCount_0f7a4 9 = .ok (.istore_n 0, 1) := by decide +kernel
theorem dJ6_bitCount_0f7a4_10 : decode cJ6_bitCount_0f7a4 10 = .ok (.iload_n 0, 1) := by decide +kernel
theorem dJ6_bitCount_0f7a4_11 : decode cJ6_bitCount_0f7a4 11 = .ok (.ldc_w 266, 3) := by decide +kernel
theorem dJ6_bitCount_0f7a4_14 : decode cJ6_bitCount_0f7a4 14 = .ok (.iand, 1) := by decide +kernel
theorem dJ6_bitCount_0f7a4_15 : decode cJ6_bitCount_0f7a4 15 = .ok (.iload_n 0, 1) := by decide +kernel
theorem dJ6_bitCount_0f7a4_16 : decode cJ6_bitCount_0f7a4 16 = .ok (.iconst 2, 1) := by decide +kernel
theorem dJ6_bitCount_0f7a4_17 : decode cJ6_bitCount_0f7a4 17 = .ok (.iushr, 1) := by decide +kernel
theorem dJ6_bitCount_0f7a4_18 : decode cJ6_bitCount_0f7a4 18 = .ok (.ldc_w 266, 3) := by decide +kernel
theorem dJ6_bitCount_0f7a4_21 : decode cJ6_bitCount_0f7a4 21 = .ok (.iand, 1) := by decide +kernel
theorem dJ6_bitCount_0f7a4_22 : decode cJ6_bitCount_0f7a4 22 = .ok (.iadd, 1) := by decide +kernel
theorem dJ6_bitCount_0f7a4_23 : decode cJ6_bitCount_0f7a4 23 = .ok (.istore_n 0, 1) := by decide +kernel
theorem dJ6_bitCount_0f7a4_24 : decode cJ6_bitCount_0f7a4 24 = .ok (.iload_n 0, 1) := by decide +kernel
theorem dJ6_bitCount_0f7a4_25 : decode cJ6_bitCount_0f7a4 25 = .ok (.iload_n 0, 1) := by decide +kernel
theorem dJ6_bitCount_0f7a4_26 : decode cJ6_bitCount_0f7a4 26 = .ok (.iconst 4, 1) := by decide +kernel
theorem dJ6_bitCount_0f7a4_27 : decode cJ6_bitCount_0f7a4 27 = .ok (.iushr, 1) := by decide +kernel
theorem dJ6_bitCount_0f7a4_28 : decode cJ6_bitCount_0f7a4 28 = .ok (.iadd, 1) := by decide +kernel
theorem dJ6_bitCount_0f7a4_29 : decode cJ6_bitCount_0f7a4 29 = .ok (.ldc_w 267, 3) := by decide +kernel
theorem dJ6_bitCount_0f7a4_32 : decode cJ6_bitCount_0f7a4 32 = .ok (.iand, 1) := by decide +kernel
theorem dJ6_bitCount_0f7a4_33 : decode cJ6_bitCount_0f7a4 33 = .ok (.istore_n 0, 1) := by decide +kernel
theorem dJ6_bitCount_0f7a4_34 : decode cJ6_bitCount_0f7a4 34 = .ok (.iload_n 0, 1) := by decide +kernel
theorem dJ6_bitCount_0f7a4_35 : decode cJ6_bitCount_0f7a4 35 = .ok (.iload_n 0, 1) := by decide +kernel
theorem dJ6_bitCount_0f7a4_36 : decode cJ6_bitCount_0f7a4 36 = .ok (.bipush 8, 2) := by decide +kernel
theorem dJ6_bitCount_0f7a4_38 : decode cJ6_bitCount_0f7a4 38 = .ok (.iushr, 1) := by decide +kernel
theorem dJ6_bitCount_0f7a4_39 : decode cJ6_bitCount_0f7a4 39 = .ok (.iadd, 1) := by decide +kernel
theorem dJ6_bitCount_0f7a4_40 : decode cJ6_bitCount_0f7a4 40 = .ok (.istore_n 0, 1) := by decide +kernel
theorem dJ6_bitCount_0f7a4_41 : decode cJ6_bitCount_0f7a4 41 = .ok (.iload_n 0, 1) := by decide +kernel
theorem dJ6_bitCount_0f7a4_42 : decode cJ6_bitCount_0f7a4 42 = .ok (.iload_n 0, 1) := by decide +kernel
theorem dJ6_bitCount_0f7a4_43 : decode cJ6_bitCount_0f7a4 43 = .ok (.bipush 16, 2) := by decide +kernel
theorem dJ6_bitCount_0f7a4_45 : decode cJ6_bitCount_0f7a4 45 = .ok (.iushr, 1) := by decide +kernel
theorem dJ6_bitCount_0f7a4_46 : decode cJ6_bitCount_0f7a4 46 = .ok (.iadd, 1) := by decide +kernel
theorem dJ6_bitCount_0f7a4_47 : decode cJ6_bitCount_0f7a4 47 = .ok (.istore_n 0, 1) := by decide +kernel
theorem dJ6_bitCount_0f7a4_48 : decode cJ6_bitCount_0f7a4 48 = .ok (.iload_n 0, 1) := by decide +kernel
theorem dJ6_bitCount_0f7a4_49 : decode cJ6_bitCount_0f7a4 49 = .ok (.bipush 63, 2) := by decide +kernel
theorem dJ6_bitCount_0f7a4_51 : decode cJ6_bitCount_0f7a4 51 = .ok (.iand, 1) := by decide +kernel
theorem dJ6_bitCount_0f7a4_52 : decode cJ6_bitCount_0f7a4 52 = .ok (.ireturn, 1) := by decide +kernel
theorem dJ13_bitCount_95d88_0 : decode cJ13_bitCount_95d88 0 = .ok (.lload_n 0, 1) := by decide +kernel
theorem dJ13_bitCount_95d88_1 : decode cJ13_bitCount_95d88 1 = .ok (.lload_n 0, 1) := by decide +kernel
theorem dJ13_bitCount_95d88_2 : decode cJ13_bitCount_95d88 2 = .ok (.iconst 1, 1) := by decide +kernel
theorem dJ13_bitCount_95d88_3 : decode cJ13_bitCount_95d88 3 = .ok (.lushr, 1) := by decide +kernel
theorem dJ13_bitCount_95d88_4 : decode cJ13_bitCount_95d88 4 = .ok (.ldc2_w 314, 3) := by decide +kernel
theorem dJ13_bitCount_95d88_7 : decode cJ13_bitCount_95d88 7 = .ok (.land, 1) := by decide +kernel
theorem dJ13_bitCount_95d88_8 : decode cJ13_bitCount_95d88 8 = .ok (.lsub, 1) := by decide +kernel
theorem dJ13_bitCount_95d88_9 : decode cJ13_bitCount_95d88 9 = .ok (.lstore_n 0, 1) := by decide +kernel
theorem dJ13_bitCount_95d88_10 : decode cJ13_bitCount_95d88 10 = .ok (.lload_n 0, 1) := by decide +kernel
theorem dJ13_bitCount_95d88_11 : decode cJ13_bitCount_95d88 11 = .ok (.ldc2_w 316, 3) := by decide +kernel
theorem dJ13_bitCount_95d88_14 : decode cJ13_bitCount_95d88 14 = .ok (.land, 1) := by decide +kernel
theorem dJ13_bitCount_95d88_15 : decode cJ13_bitCount_95d88 15 = .ok (.lload_n 0, 1) := by decide +kernel
theorem dJ13_bitCount_95d88_16 : decode cJ13_bitCount_95d88 16 = .ok (.iconst 2, 1) := by decide +kernel
theorem dJ13_bitCount_95d88_17 : decode cJ13_bitCount_95d88 17 = .ok (.lushr, 1) := by decide +kernel
theorem dJ13_bitCount_95d88_18 : decode cJ13_bitCount_95d88 18 = .ok (.ldc2_w 316, 3) := by decide +kernel
theorem dJ13_bitCount_95d88_21 : decode cJ13_bitCount_95d88 21 = .ok (.land, 1) := by decide +kernel
theorem dJ13_bitCount_95d88_22 : decode cJ13_bitCount_95d88 22 = .ok (.ladd, 1) := by decide +kernel
theorem dJ13_bitCount_95d88_23 : decode cJ13_bitCount_95d88 23 = .ok (.lstore_n 0, 1) := by decide +kernel
theorem dJ13_bitCount_95d88_24 : decode cJ13_bitCount_95d88 24 = .ok (.lload_n 0, 1) := by decide +kernel
theorem dJ13_bitCount_95d88_25 : decode cJ13_bitCount_95d88 25 = .ok (.lload_n 0, 1) := by decide +kernel
theorem dJ13_bitCount_95d88_26 : decode cJ13_bitCount_95d88 26 = .ok (.iconst 4, 1) := by decide +kernel
theorem dJ13_bitCount_95d88_27 : decode cJ13_bitCount_95d88 27 = .ok (.lushr, 1) := by decide +kernel
theorem dJ13_bitCount_95d88_28 : decode cJ13_bitCount_95d88 28 = .ok (.ladd, 1) := by decide +kernel
theorem dJ13_bitCount_95d88_29 : decode cJ13_bitCount_95d88 29 = .ok (.ldc2_w 318, 3) := by decide +kernel
theorem dJ13_bitCount_95d88_32 : decode cJ13_bitCount_95d88 32 = .ok (.land, 1) := by decide +kernel
theorem dJ13_bitCount_95d88_33 : decode cJ13_bitCount_95d88 33 = .ok (.lstore_n 0, 1) := by decide +kernel
theorem dJ13_bitCount_95d88_34 : decode cJ13_bitCount_95d88 34 = .ok (.lload_n 0, 1) := by decide +kernel
theorem dJ13_bitCount_95d88_35 : decode cJ13_bitCount_95d88 35 = .ok (.lload_n 0, 1) := by decide +kernel
theorem dJ13_bitCount_95d88_36 : decode cJ13_bitCount_95d88 36 = .ok (.bipush 8, 2) := by decide +kernel
theorem dJ13_bitCount_95d88_38 : decode cJ13_bitCount_95d88 38 = .ok (.lushr, 1) := by decide +kernel
theorem dJ13_bitCount_95d88_39 : decode cJ13_bitCount_95d88 39 = .ok (.ladd, 1) := by decide +kernel
theorem dJ13_bitCount_95d88_40 : decode cJ13_bitCount_95d88 40 = .ok (.lstore_n 0, 1) := by decide +kernel
theorem dJ13_bitCount_95d88_41 : decode cJ13_bitCount_95d88 41 = .ok (.lload_n 0, 1) := by decide +kernel
theorem dJ13_bitCount_95d88_42 : decode cJ13_bitCount_95d88 42 = .ok (.lload_n 0, 1) := by decide +kernel
theorem dJ13_bitCount_95d88_43 : decode cJ13_bitCount_95d88 43 = .ok (.bipush 16, 2) := by decide +kernel
theorem dJ13_bitCount_95d88_45 : decode cJ13_bitCount_95d88 45 = .ok (.lushr, 1) := by decide +kernel
theorem dJ13_bitCount_95d88_46 : decode cJ13_bitCount_95d88 46 = .ok (.ladd, 1) := by decide +kernel
theorem dJ13_bitCount_95d88_47 : decode cJ13_bitCount_95d88 47 = .ok (.lstore_n 0, 1) := by decide +kernel
theorem dJ13_bitCount_95d88_48 : decode cJ13_bitCount_95d88 48 = .ok (.lload_n 0, 1) := by decide +kernel
theorem dJ13_bitCount_95d88_49 : decode cJ13_bitCount_95d88 49 = .ok (.lload_n 0, 1) := by decide +kernel
theorem dJ13_bitCount_95d88_50 : decode cJ13_bitCount_95d88 50 = .ok (.bipush 32, 2) := by decide +kernel
theorem dJ13_bitCount_95d88_52 : decode cJ13_bitCount_95d88 52 = .ok (.lushr, 1) := by decide +kernel
theorem dJ13_bitCount_95d88_53 : decode cJ13_bitCount_95d88 53 = .ok (.ladd, 1) := by decide +kernel
theorem dJ13_bitCount_95d88_54 : decode cJ13_bitCount_95d88 54 = .ok (.lstore_n 0, 1) := by decide +kernel
theorem dJ13_bitCount_95d88_55 : decode cJ13_bitCount_95d88 55 = .ok (.lload_n 0, 1) := by decide +kernel
theorem dJ13_bitCount_95d88_56 : decode cJ13_bitCount_95d88 56 = .ok (.l2i, 1) := by decide +kernel
theorem dJ13_bitCount_95d88_57 : decode cJ13_bitCount_95d88 57 = .ok (.bipush 127, 2) := by decide +kernel
theorem dJ13_bitCount_95d88_59 : decode cJ13_bitCount_95d88 59 = .ok (.iand, 1) := by decide +kernel
theorem dJ13_bitCount_95d88_60 : decode cJ13_bitCount_95d88 60 = .ok (.ireturn, 1) := by decide +kernel
theorem dJ9_max_7cf53_0 : decode cJ9_max_7cf53 0 = .ok (.iload_n 0, 1) := by decide +kernel
theorem dJ9_max_7cf53_1 : decode cJ9_max_7cf53 1 = .ok (.iload_n 1, 1) := by decide +kernel
theorem dJ9_max_7cf53_2 : decode cJ9_max_7cf53 2 = .ok (.if_icmp .lt 7, 3) := by decide +kernel
theorem dJ9_max_7cf53_5 : decode cJ9_max_7cf53 5 = .ok (.iload_n 0, 1) := by decide +kernel
theorem dJ9_max_7cf53_6 : decode cJ9_max_7cf53 6 = .ok (.goto 4, 3) := by decide +kernel
theorem dJ9_max_7cf53_9 : decode cJ9_max_7cf53 9 = .ok (.iload_n 1, 1) := by decide +kernel
theorem dJ9_max_7cf53_10 : decode cJ9_max_7cf53 10 = .ok (.ireturn, 1) := by decide +kernel
theorem dJ9_min_7cf53_0 : decode cJ9_min_7cf53 0 = .ok (.iload_n 0, 1) := by decide +kernel
theorem dJ9_min_7cf53_1 : decode cJ9_min_7cf53 1 = .ok (.iload_n 1, 1) := by decide +kernel
theorem dJ9_min_7cf53_2 : decode cJ9_min_7cf53 2 = .ok (.if_icmp .gt 7, 3) := by decide +kernel
theorem dJ9_min_7cf53_5 : decode cJ9_min_7cf53 5 = .ok (.iload_n 0, 1) := by decide +kernel
theorem dJ9_min_7cf53_6 : decode cJ9_min_7cf53 6 = .ok (.goto 4, 3) := by decide +kernel
theorem dJ9_min_7cf53_9 : decode cJ9_min_7cf53 9 = .ok (.iload_n 1, 1) := by decide +kernel
theorem dJ9_min_7cf53_10 : decode cJ9_min_7cf53 10 = .ok (.ireturn, 1) := by decide +kernel
theorem dJ7_fill_d0a16_0 : decode cJ7_fill_d0a16 0 = .ok (.iconst 0, 1) := by decide +kernel
theorem dJ7_fill_d0a16_1 : decode cJ7_fill_d0a16 1 = .ok (.istore_n 3, 1) := by decide +kernel
theorem dJ7_fill_d0a16_2 : decode cJ7_fill_d0a16 2 = .ok (.aload_n 0, 1) := by decide +kernel
theorem dJ7_fill_d0a16_3 : decode cJ7_fill_d0a16 3 = .ok (.arraylength, 1) := by decide +kernel
theorem dJ7_fill_d0a16_4 : decode cJ7_fill_d0a16 4 = .ok (.istore 4, 2) := by decide +kernel
theorem dJ7_fill_d0a16_6 : decode cJ7_fill_d0a16 6 = .ok (.iload_n 3, 1) := by decide +kernel
theorem dJ7_fill_d0a16_7 : decode cJ7_fill_d0a16 7 = .ok (.iload 4, 2) := by decide +kernel
theorem dJ7_fill_d0a16_9 : decode cJ7_fill_d0a16 9 = .ok (.if_icmp .ge 13, 3) := by decide +kernel
theorem dJ7_fill_d0a16_12 : decode cJ7_fill_d0a16 12 = .ok (.aload_n 0, 1) := by decide +kernel
theorem dJ7_fill_d0a16_13 : decode cJ7_fill_d0a16 13 = .ok (.iload_n 3, 1) := by decide +kernel
theorem dJ7_fill_d0a16_14 : decode cJ7_fill_d0a16 14 = .ok (.lload_n 1, 1) := by decide +kernel
theorem dJ7_fill_d0a16_15 : decode cJ7_fill_d0a16 15 = .ok (.lastore, 1) := by decide +kernel
theorem dJ7_fill_d0a16_16 : decode cJ7_fill_d0a16 16 = .ok (.iinc 3 1, 3) := by decide +kernel
theorem dJ7_fill_d0a16_19 : decode cJ7_fill_d0a16 19 = .ok (.goto (-13), 3) := by decide +kernel
theorem dJ7_fill_d0a16_22 : decode cJ7_fill_d0a16 22 = .ok (.return_, 1) := by decide +kernel
theorem dL_make_0 : decode cL_make 0 = .ok (.aload 4, 2) := by decide +kernel
theorem dL_make_2 : decode cL_make 2 = .ok (.iconst 0, 1) := by decide +kernel
theorem dL_make_3 : decode cL_make 3 = .ok (.aload_n 0, 1) := by decide +kernel
theorem dL_make_4 : decode cL_make 4 = .ok (.iload_n 1, 1) := by decide +kernel
theorem dL_make_5 : decode cL_make 5 = .ok (.iload_n 2, 1) := by decide +kernel
theorem dL_make_6 : decode cL_make 6 = .ok (.iload_n 3, 1) := by decide +kernel
theorem dL_make_7 : decode cL_make 7 = .ok (.invokevirtual 7, 3) := by decide +kernel
theorem dL_make_10 : decode cL_make 10 = .ok (.i2l, 1) := by decide +kernel
theorem dL_make_11 : decode cL_make 11 = .ok (.lastore, 1) := by decide +kernel
theorem dL_make_12 : decode cL_make 12 = .ok (.goto 11, 3) := by decide +kernel
theorem dL_make_15 : decode cL_make 15 = .ok (.astore 5, 2) := by decide +kernel
theorem dL_make_17 : decode cL_make 17 = .ok (.iconst 1, 1) := by decide +kernel
theorem dL_make_18 : decode cL_make 18 = .ok (.ireturn, 1) := by decide +kernel
theorem dL_make_19 : decode cL_make 19 = .ok (.astore 5, 2) := by decide +kernel
theorem dL_make_21 : decode cL_make 21 = .ok (.iconst 2, 1) := by decide +kernel
theorem dL_make_22 : decode cL_make 22 = .ok (.ireturn, 1) := by decide +kernel
theorem dL_make_23 : decode cL_make 23 = .ok (.iconst 0, 1) := by decide +kernel
theorem dL_make_24 : decode cL_make 24 = .ok (.ireturn, 1) := by decide +kernel
theorem dL_withdraw_0 : decode cL_withdraw 0 = .ok (.aload_n 2, 1) := by decide +kernel
theorem dL_withdraw_1 : decode cL_withdraw 1 = .ok (.iconst 0, 1) := by decide +kernel
theorem dL_withdraw_2 : decode cL_withdraw 2 = .ok (.aload_n 0, 1) := by decide +kernel
theorem dL_withdraw_3 : decode cL_withdraw 3 = .ok (.iload_n 1, 1) := by decide +kernel
theorem dL_withdraw_4 : decode cL_withdraw 4 = .ok (.invokevirtual 17, 3) := by decide +kernel
theorem dL_withdraw_7 : decode cL_withdraw 7 = .ok (.i2l, 1) := by decide +kernel
theorem dL_withdraw_8 : decode cL_withdraw 8 = .ok (.lastore, 1) := by decide +kernel
theorem dL_withdraw_9 : decode cL_withdraw 9 = .ok (.goto 6, 3) := by decide +kernel
theorem dL_withdraw_12 : decode cL_withdraw 12 = .ok (.astore_n 3, 1) := by decide +kernel
theorem dL_withdraw_13 : decode cL_withdraw 13 = .ok (.iconst 1, 1) := by decide +kernel
theorem dL_withdraw_14 : decode cL_withdraw 14 = .ok (.ireturn, 1) := by decide +kernel
theorem dL_withdraw_15 : decode cL_withdraw 15 = .ok (.iconst 0, 1) := by decide +kernel
theorem dL_withdraw_16 : decode cL_withdraw 16 = .ok (.ireturn, 1) := by decide +kernel
theorem dL_setStrict_0 : decode cL_setStrict 0 = .ok (.aload_n 3, 1) := by decide +kernel
theorem dL_setStrict_1 : decode cL_setStrict 1 = .ok (.iconst 0, 1) := by decide +kernel
theorem dL_setStrict_2 : decode cL_setStrict 2 = .ok (.aload_n 0, 1) := by decide +kernel
theorem dL_setStrict_3 : decode cL_setStrict 3 = .ok (.iload_n 1, 1) := by decide +kernel
theorem dL_setStrict_4 : decode cL_setStrict 4 = .ok (.iload_n 2, 1) := by decide +kernel
theorem dL_setStrict_5 : decode cL_setStrict 5 = .ok (.invokevirtual 23, 3) := by decide +kernel
theorem dL_setStrict_8 : decode cL_setStrict 8 = .ok (.ifCond .eq 7, 3) := by decide +kernel
theorem dL_setStrict_11 : decode cL_setStrict 11 = .ok (.lconst 1, 1) := by decide +kernel
theorem dL_setStrict_12 : decode cL_setStrict 12 = .ok (.goto 4, 3) := by decide +kernel
theorem dL_setStrict_15 : decode cL_setStrict 15 = .ok (.lconst 0, 1) := by decide +kernel
theorem dL_setStrict_16 : decode cL_setStrict 16 = .ok (.lastore, 1) := by decide +kernel
theorem dL_setStrict_17 : decode cL_setStrict 17 = .ok (.goto 7, 3) := by decide +kernel
theorem dL_setStrict_20 : decode cL_setStrict 20 = .ok (.astore 4, 2) := by decide +kernel
theorem dL_setStrict_22 : decode cL_setStrict 22 = .ok (.iconst 1, 1) := by decide +kernel
theorem dL_setStrict_23 : decode cL_setStrict 23 = .ok (.ireturn, 1) := by decide +kernel
theorem dL_setStrict_24 : decode cL_setStrict 24 = .ok (.iconst 0, 1) := by decide +kernel
theorem dL_setStrict_25 : decode cL_setStrict 25 = .ok (.ireturn, 1) := by decide +kernel
theorem dL_waive_0 : decode cL_waive 0 = .ok (.aload_n 3, 1) := by decide +kernel
theorem dL_waive_1 : decode cL_waive 1 = .ok (.iconst 0, 1) := by decide +kernel
theorem dL_waive_2 : decode cL_waive 2 = .ok (.aload_n 0, 1) := by decide +kernel
theorem dL_waive_3 : decode cL_waive 3 = .ok (.iload_n 1, 1) := by decide +kernel
theorem dL_waive_4 : decode cL_waive 4 = .ok (.iload_n 2, 1) := by decide +kernel
theorem dL_waive_5 : decode cL_waive 5 = .ok (.invokevirtual 27, 3) := by decide +kernel
theorem dL_waive_8 : decode cL_waive 8 = .ok (.i2l, 1) := by decide +kernel
theorem dL_waive_9 : decode cL_waive 9 = .ok (.lastore, 1) := by decide +kernel
theorem dL_waive_10 : decode cL_waive 10 = .ok (.goto 11, 3) := by decide +kernel
theorem dL_waive_13 : decode cL_waive 13 = .ok (.astore 4, 2) := by decide +kernel
theorem dL_waive_15 : decode cL_waive 15 = .ok (.iconst 1, 1) := by decide +kernel
theorem dL_waive_16 : decode cL_waive 16 = .ok (.ireturn, 1) := by decide +kernel
theorem dL_waive_17 : decode cL_waive 17 = .ok (.astore 4, 2) := by decide +kernel
theorem dL_waive_19 : decode cL_waive 19 = .ok (.iconst 2, 1) := by decide +kernel
theorem dL_waive_20 : decode cL_waive 20 = .ok (.ireturn, 1) := by decide +kernel
theorem dL_waive_21 : decode cL_waive 21 = .ok (.iconst 0, 1) := by decide +kernel
theorem dL_waive_22 : decode cL_waive 22 = .ok (.ireturn, 1) := by decide +kernel
theorem dL_come_0 : decode cL_come 0 = .ok (.aload_n 2, 1) := by decide +kernel
theorem dL_come_1 : decode cL_come 1 = .ok (.iconst 0, 1) := by decide +kernel
theorem dL_come_2 : decode cL_come 2 = .ok (.aload_n 0, 1) := by decide +kernel
theorem dL_come_3 : decode cL_come 3 = .ok (.iload_n 1, 1) := by decide +kernel
theorem dL_come_4 : decode cL_come 4 = .ok (.invokevirtual 31, 3) := by decide +kernel
theorem dL_come_7 : decode cL_come 7 = .ok (.i2l, 1) := by decide +kernel
theorem dL_come_8 : decode cL_come 8 = .ok (.lastore, 1) := by decide +kernel
theorem dL_come_9 : decode cL_come 9 = .ok (.goto 9, 3) := by decide +kernel
theorem dL_come_12 : decode cL_come 12 = .ok (.astore_n 3, 1) := by decide +kernel
theorem dL_come_13 : decode cL_come 13 = .ok (.iconst 1, 1) := by decide +kernel
theorem dL_come_14 : decode cL_come 14 = .ok (.ireturn, 1) := by decide +kernel
theorem dL_come_15 : decode cL_come 15 = .ok (.astore_n 3, 1) := by decide +kernel
theorem dL_come_16 : decode cL_come 16 = .ok (.iconst 2, 1) := by decide +kernel
theorem dL_come_17 : decode cL_come 17 = .ok (.ireturn, 1) := by decide +kernel
theorem dL_come_18 : decode cL_come 18 = .ok (.iconst 0, 1) := by decide +kernel
theorem dL_come_19 : decode cL_come 19 = .ok (.ireturn, 1) := by decide +kernel
theorem dL_go_0 : decode cL_go 0 = .ok (.aload_n 2, 1) := by decide +kernel
theorem dL_go_1 : decode cL_go 1 = .ok (.iconst 0, 1) := by decide +kernel
theorem dL_go_2 : decode cL_go 2 = .ok (.aload_n 0, 1) := by decide +kernel
theorem dL_go_3 : decode cL_go 3 = .ok (.iload_n 1, 1) := by decide +kernel
theorem dL_go_4 : decode cL_go 4 = .ok (.invokevirtual 34, 3) := by decide +kernel
theorem dL_go_7 : decode cL_go 7 = .ok (.i2l, 1) := by decide +kernel
theorem dL_go_8 : decode cL_go 8 = .ok (.lastore, 1) := by decide +kernel
theorem dL_go_9 : decode cL_go 9 = .ok (.goto 9, 3) := by decide +kernel
theorem dL_go_12 : decode cL_go 12 = .ok (.astore_n 3, 1) := by decide +kernel
theorem dL_go_13 : decode cL_go 13 = .ok (.iconst 1, 1) := by decide +kernel
theorem dL_go_14 : decode cL_go 14 = .ok (.ireturn, 1) := by decide +kernel
theorem dL_go_15 : decode cL_go 15 = .ok (.astore_n 3, 1) := by decide +kernel
theorem dL_go_16 : decode cL_go 16 = .ok (.iconst 2, 1) := by decide +kernel
theorem dL_go_17 : decode cL_go 17 = .ok (.ireturn, 1) := by decide +kernel
theorem dL_go_18 : decode cL_go 18 = .ok (.iconst 0, 1) := by decide +kernel
theorem dL_go_19 : decode cL_go 19 = .ok (.ireturn, 1) := by decide +kernel
theorem dL_pass_0 : decode cL_pass 0 = .ok (.aload_n 2, 1) := by decide +kernel
theorem dL_pass_1 : decode cL_pass 1 = .ok (.iconst 0, 1) := by decide +kernel
theorem dL_pass_2 : decode cL_pass 2 = .ok (.aload_n 0, 1) := by decide +kernel
theorem dL_pass_3 : decode cL_pass 3 = .ok (.iload_n 1, 1) := by decide +kernel
theorem dL_pass_4 : decode cL_pass 4 = .ok (.invokevirtual 37, 3) := by decide +kernel
theorem dL_pass_7 : decode cL_pass 7 = .ok (.i2l, 1) := by decide +kernel
theorem dL_pass_8 : decode cL_pass 8 = .ok (.lastore, 1) := by decide +kernel
theorem dL_pass_9 : decode cL_pass 9 = .ok (.goto 6, 3) := by decide +kernel
theorem dL_pass_12 : decode cL_pass 12 = .ok (.astore_n 3, 1) := by decide +kernel
theorem dL_pass_13 : decode cL_pass 13 = .ok (.iconst 1, 1) := by decide +kernel
theorem dL_pass_14 : decode cL_pass 14 = .ok (.ireturn, 1) := by decide +kernel
theorem dL_pass_15 : decode cL_pass 15 = .ok (.iconst 0, 1) := by decide +kernel
theorem dL_pass_16 : decode cL_pass 16 = .ok (.ireturn, 1) := by decide +kernel
theorem dL_append_0 : decode cL_append 0 = .ok (.aload_n 2, 1) := by decide +kernel
theorem dL_append_1 : decode cL_append 1 = .ok (.iconst 0, 1) := by decide +kernel
theorem dL_append_2 : decode cL_append 2 = .ok (.aload_n 0, 1) := by decide +kernel
theorem dL_append_3 : decode cL_append 3 = .ok (.iload_n 1, 1) := by decide +kernel
theorem dL_append_4 : decode cL_append 4 = .ok (.invokevirtual 40, 3) := by decide +kernel
theorem dL_append_7 : decode cL_append 7 = .ok (.i2l, 1) := by decide +kernel
theorem dL_append_8 : decode cL_append 8 = .ok (.lastore, 1) := by decide +kernel
theorem dL_append_9 : decode cL_append 9 = .ok (.goto 9, 3) := by decide +kernel
theorem dL_append_12 : decode cL_append 12 = .ok (.astore_n 3, 1) := by decide +kernel
theorem dL_append_13 : decode cL_append 13 = .ok (.iconst 1, 1) := by decide +kernel
theorem dL_append_14 : decode cL_append 14 = .ok (.ireturn, 1) := by decide +kernel
theorem dL_append_15 : decode cL_append 15 = .ok (.astore_n 3, 1) := by decide +kernel
theorem dL_append_16 : decode cL_append 16 = .ok (.iconst 2, 1) := by decide +kernel
theorem dL_append_17 : decode cL_append 17 = .ok (.ireturn, 1) := by decide +kernel
theorem dL_append_18 : decode cL_append 18 = .ok (.iconst 0, 1) := by decide +kernel
theorem dL_append_19 : decode cL_append 19 = .ok (.ireturn, 1) := by decide +kernel
theorem dL_runLog_0 : decode cL_runLog 0 = .ok (.aload_n 1, 1) := by decide +kernel
theorem dL_runLog_1 : decode cL_runLog 1 = .ok (.iconst 0, 1) := by decide +kernel
theorem dL_runLog_2 : decode cL_runLog 2 = .ok (.aload_n 0, 1) := by decide +kernel
theorem dL_runLog_3 : decode cL_runLog 3 = .ok (.invokevirtual 43, 3) := by decide +kernel
theorem dL_runLog_6 : decode cL_runLog 6 = .ok (.i2l, 1) := by decide +kernel
theorem dL_runLog_7 : decode cL_runLog 7 = .ok (.lastore, 1) := by decide +kernel
theorem dL_runLog_8 : decode cL_runLog 8 = .ok (.goto 6, 3) := by decide +kernel
theorem dL_runLog_11 : decode cL_runLog 11 = .ok (.astore_n 2, 1) := by decide +kernel
theorem dL_runLog_12 : decode cL_runLog 12 = .ok (.iconst 1, 1) := by decide +kernel
theorem dL_runLog_13 : decode cL_runLog 13 = .ok (.ireturn, 1) := by decide +kernel
theorem dL_runLog_14 : decode cL_runLog 14 = .ok (.iconst 0, 1) := by decide +kernel
theorem dL_runLog_15 : decode cL_runLog 15 = .ok (.ireturn, 1) := by decide +kernel
theorem dL_goBack_0 : decode cL_goBack 0 = .ok (.aload_n 1, 1) := by decide +kernel
theorem dL_goBack_1 : decode cL_goBack 1 = .ok (.iconst 0, 1) := by decide +kernel
theorem dL_goBack_2 : decode cL_goBack 2 = .ok (.aload_n 0, 1) := by decide +kernel
theorem dL_goBack_3 : decode cL_goBack 3 = .ok (.invokevirtual 47, 3) := by decide +kernel
theorem dL_goBack_6 : decode cL_goBack 6 = .ok (.i2l, 1) := by decide +kernel
theorem dL_goBack_7 : decode cL_goBack 7 = .ok (.lastore, 1) := by decide +kernel
theorem dL_goBack_8 : decode cL_goBack 8 = .ok (.goto 6, 3) := by decide +kernel
theorem dL_goBack_11 : decode cL_goBack 11 = .ok (.astore_n 2, 1) := by decide +kernel
theorem dL_goBack_12 : decode cL_goBack 12 = .ok (.iconst 1, 1) := by decide +kernel
theorem dL_goBack_13 : decode cL_goBack 13 = .ok (.ireturn, 1) := by decide +kernel
theorem dL_goBack_14 : decode cL_goBack 14 = .ok (.iconst 0, 1) := by decide +kernel
theorem dL_goBack_15 : decode cL_goBack 15 = .ok (.ireturn, 1) := by decide +kernel
theorem dL_undo_0 : decode cL_undo 0 = .ok (.aload_n 1, 1) := by decide +kernel
theorem dL_undo_1 : decode cL_undo 1 = .ok (.iconst 0, 1) := by decide +kernel
theorem dL_undo_2 : decode cL_undo 2 = .ok (.aload_n 0, 1) := by decide +kernel
theorem dL_undo_3 : decode cL_undo 3 = .ok (.invokevirtual 50, 3) := by decide +kernel
theorem dL_undo_6 : decode cL_undo 6 = .ok (.i2l, 1) := by decide +kernel
theorem dL_undo_7 : decode cL_undo 7 = .ok (.lastore, 1) := by decide +kernel
theorem dL_undo_8 : decode cL_undo 8 = .ok (.goto 6, 3) := by decide +kernel
theorem dL_undo_11 : decode cL_undo 11 = .ok (.astore_n 2, 1) := by decide +kernel
theorem dL_undo_12 : decode cL_undo 12 = .ok (.iconst 1, 1) := by decide +kernel
theorem dL_undo_13 : decode cL_undo 13 = .ok (.ireturn, 1) := by decide +kernel
theorem dL_undo_14 : decode cL_undo 14 = .ok (.iconst 0, 1) := by decide +kernel
theorem dL_undo_15 : decode cL_undo 15 = .ok (.ireturn, 1) := by decide +kernel
theorem dL_shouldBeLet_0 : decode cL_shouldBeLet 0 = .ok (.aload_n 2, 1) := by decide +kernel
theorem dL_shouldBeLet_1 : decode cL_shouldBeLet 1 = .ok (.iconst 0, 1) := by decide +kernel
theorem dL_shouldBeLet_2 : decode cL_shouldBeLet 2 = .ok (.aload_n 0, 1) := by decide +kernel
theorem dL_shouldBeLet_3 : decode cL_shouldBeLet 3 = .ok (.iload_n 1, 1) := by decide +kernel
theorem dL_shouldBeLet_4 : decode cL_shouldBeLet 4 = .ok (.invokevirtual 53, 3) := by decide +kernel
theorem dL_shouldBeLet_7 : decode cL_shouldBeLet 7 = .ok (.i2l, 1) := by decide +kernel
theorem dL_shouldBeLet_8 : decode cL_shouldBeLet 8 = .ok (.lastore, 1) := by decide +kernel
theorem dL_shouldBeLet_9 : decode cL_shouldBeLet 9 = .ok (.goto 6, 3) := by decide +kernel
theorem dL_shouldBeLet_12 : decode cL_shouldBeLet 12 = .ok (.astore_n 3, 1) := by decide +kernel
theorem dL_shouldBeLet_13 : decode cL_shouldBeLet 13 = .ok (.iconst 1, 1) := by decide +kernel
theorem dL_shouldBeLet_14 : decode cL_shouldBeLet 14 = .ok (.ireturn, 1) := by decide +kernel
theorem dL_shouldBeLet_15 : decode cL_shouldBeLet 15 = .ok (.iconst 0, 1) := by decide +kernel
theorem dL_shouldBeLet_16 : decode cL_shouldBeLet 16 = .ok (.ireturn, 1) := by decide +kernel
theorem dL_shouldBeEmpty_0 : decode cL_shouldBeEmpty 0 = .ok (.aload_n 2, 1) := by decide +kernel
theorem dL_shouldBeEmpty_1 : decode cL_shouldBeEmpty 1 = .ok (.iconst 0, 1) := by decide +kernel
theorem dL_shouldBeEmpty_2 : decode cL_shouldBeEmpty 2 = .ok (.aload_n 0, 1) := by decide +kernel
theorem dL_shouldBeEmpty_3 : decode cL_shouldBeEmpty 3 = .ok (.iload_n 1, 1) := by decide +kernel
theorem dL_shouldBeEmpty_4 : decode cL_shouldBeEmpty 4 = .ok (.invokevirtual 56, 3) := by decide +kernel
theorem dL_shouldBeEmpty_7 : decode cL_shouldBeEmpty 7 = .ok (.i2l, 1) := by decide +kernel
theorem dL_shouldBeEmpty_8 : decode cL_shouldBeEmpty 8 = .ok (.lastore, 1) := by decide +kernel
theorem dL_shouldBeEmpty_9 : decode cL_shouldBeEmpty 9 = .ok (.goto 6, 3) := by decide +kernel
theorem dL_shouldBeEmpty_12 : decode cL_shouldBeEmpty 12 = .ok (.astore_n 3, 1) := by decide +kernel
theorem dL_shouldBeEmpty_13 : decode cL_shouldBeEmpty 13 = .ok (.iconst 1, 1) := by decide +kernel
theorem dL_shouldBeEmpty_14 : decode cL_shouldBeEmpty 14 = .ok (.ireturn, 1) := by decide +kernel
theorem dL_shouldBeEmpty_15 : decode cL_shouldBeEmpty 15 = .ok (.iconst 0, 1) := by decide +kernel
theorem dL_shouldBeEmpty_16 : decode cL_shouldBeEmpty 16 = .ok (.ireturn, 1) := by decide +kernel
theorem dL_fine_0 : decode cL_fine 0 = .ok (.aload_n 2, 1) := by decide +kernel
theorem dL_fine_1 : decode cL_fine 1 = .ok (.iconst 0, 1) := by decide +kernel
theorem dL_fine_2 : decode cL_fine 2 = .ok (.aload_n 0, 1) := by decide +kernel
theorem dL_fine_3 : decode cL_fine 3 = .ok (.iload_n 1, 1) := by decide +kernel
theorem dL_fine_4 : decode cL_fine 4 = .ok (.invokevirtual 59, 3) := by decide +kernel
theorem dL_fine_7 : decode cL_fine 7 = .ok (.i2l, 1) := by decide +kernel
theorem dL_fine_8 : decode cL_fine 8 = .ok (.lastore, 1) := by decide +kernel
theorem dL_fine_9 : decode cL_fine 9 = .ok (.goto 6, 3) := by decide +kernel
theorem dL_fine_12 : decode cL_fine 12 = .ok (.astore_n 3, 1) := by decide +kernel
theorem dL_fine_13 : decode cL_fine 13 = .ok (.iconst 1, 1) := by decide +kernel
theorem dL_fine_14 : decode cL_fine 14 = .ok (.ireturn, 1) := by decide +kernel
theorem dL_fine_15 : decode cL_fine 15 = .ok (.iconst 0, 1) := by decide +kernel
theorem dL_fine_16 : decode cL_fine 16 = .ok (.ireturn, 1) := by decide +kernel
theorem dL_isStrict_0 : decode cL_isStrict 0 = .ok (.aload_n 2, 1) := by decide +kernel
theorem dL_isStrict_1 : decode cL_isStrict 1 = .ok (.iconst 0, 1) := by decide +kernel
theorem dL_isStrict_2 : decode cL_isStrict 2 = .ok (.aload_n 0, 1) := by decide +kernel
theorem dL_isStrict_3 : decode cL_isStrict 3 = .ok (.iload_n 1, 1) := by decide +kernel
theorem dL_isStrict_4 : decode cL_isStrict 4 = .ok (.invokevirtual 62, 3) := by decide +kernel
theorem dL_isStrict_7 : decode cL_isStrict 7 = .ok (.ifCond .eq 7, 3) := by decide +kernel
theorem dL_isStrict_10 : decode cL_isStrict 10 = .ok (.lconst 1, 1) := by decide +kernel
theorem dL_isStrict_11 : decode cL_isStrict 11 = .ok (.goto 4, 3) := by decide +kernel
theorem dL_isStrict_14 : decode cL_isStrict 14 = .ok (.lconst 0, 1) := by decide +kernel
theorem dL_isStrict_15 : decode cL_isStrict 15 = .ok (.lastore, 1) := by decide +kernel
theorem dL_isStrict_16 : decode cL_isStrict 16 = .ok (.goto 6, 3) := by decide +kernel
theorem dL_isStrict_19 : decode cL_isStrict 19 = .ok (.astore_n 3, 1) := by decide +kernel
theorem dL_isStrict_20 : decode cL_isStrict 20 = .ok (.iconst 1, 1) := by decide +kernel
theorem dL_isStrict_21 : decode cL_isStrict 21 = .ok (.ireturn, 1) := by decide +kernel
theorem dL_isStrict_22 : decode cL_isStrict 22 = .ok (.iconst 0, 1) := by decide +kernel
theorem dL_isStrict_23 : decode cL_isStrict 23 = .ok (.ireturn, 1) := by decide +kernel
theorem dL_waivedFor_0 : decode cL_waivedFor 0 = .ok (.aload_n 2, 1) := by decide +kernel
theorem dL_waivedFor_1 : decode cL_waivedFor 1 = .ok (.iconst 0, 1) := by decide +kernel
theorem dL_waivedFor_2 : decode cL_waivedFor 2 = .ok (.aload_n 0, 1) := by decide +kernel
theorem dL_waivedFor_3 : decode cL_waivedFor 3 = .ok (.iload_n 1, 1) := by decide +kernel
theorem dL_waivedFor_4 : decode cL_waivedFor 4 = .ok (.invokevirtual 66, 3) := by decide +kernel
theorem dL_waivedFor_7 : decode cL_waivedFor 7 = .ok (.i2l, 1) := by decide +kernel
theorem dL_waivedFor_8 : decode cL_waivedFor 8 = .ok (.lastore, 1) := by decide +kernel
theorem dL_waivedFor_9 : decode cL_waivedFor 9 = .ok (.goto 6, 3) := by decide +kernel
theorem dL_waivedFor_12 : decode cL_waivedFor 12 = .ok (.astore_n 3, 1) := by decide +kernel
theorem dL_waivedFor_13 : decode cL_waivedFor 13 = .ok (.iconst 1, 1) := by decide +kernel
theorem dL_waivedFor_14 : decode cL_waivedFor 14 = .ok (.ireturn, 1) := by decide +kernel
theorem dL_waivedFor_15 : decode cL_waivedFor 15 = .ok (.iconst 0, 1) := by decide +kernel
theorem dL_waivedFor_16 : decode cL_waivedFor 16 = .ok (.ireturn, 1) := by decide +kernel
theorem dL_holdsIn_0 : decode cL_holdsIn 0 = .ok (.aload_n 3, 1) := by decide +kernel
theorem dL_holdsIn_1 : decode cL_holdsIn 1 = .ok (.iconst 0, 1) := by decide +kernel
theorem dL_holdsIn_2 : decode cL_holdsIn 2 = .ok (.aload_n 0, 1) := by decide +kernel
theorem dL_holdsIn_3 : decode cL_holdsIn 3 = .ok (.iload_n 1, 1) := by decide +kernel
theorem dL_holdsIn_4 : decode cL_holdsIn 4 = .ok (.iload_n 2, 1) := by decide +kernel
theorem dL_holdsIn_5 : decode cL_holdsIn 5 = .ok (.invokevirtual 69, 3) := by decide +kernel
theorem dL_holdsIn_8 : decode cL_holdsIn 8 = .ok (.ifCond .eq 7, 3) := by decide +kernel
theorem dL_holdsIn_11 : decode cL_holdsIn 11 = .ok (.lconst 1, 1) := by decide +kernel
theorem dL_holdsIn_12 : decode cL_holdsIn 12 = .ok (.goto 4, 3) := by decide +kernel
theorem dL_holdsIn_15 : decode cL_holdsIn 15 = .ok (.lconst 0, 1) := by decide +kernel
theorem dL_holdsIn_16 : decode cL_holdsIn 16 = .ok (.lastore, 1) := by decide +kernel
theorem dL_holdsIn_17 : decode cL_holdsIn 17 = .ok (.goto 11, 3) := by decide +kernel
theorem dL_holdsIn_20 : decode cL_holdsIn 20 = .ok (.astore 4, 2) := by decide +kernel
theorem dL_holdsIn_22 : decode cL_holdsIn 22 = .ok (.iconst 1, 1) := by decide +kernel
theorem dL_holdsIn_23 : decode cL_holdsIn 23 = .ok (.ireturn, 1) := by decide +kernel
theorem dL_holdsIn_24 : decode cL_holdsIn 24 = .ok (.astore 4, 2) := by decide +kernel
theorem dL_holdsIn_26 : decode cL_holdsIn 26 = .ok (.iconst 2, 1) := by decide +kernel
theorem dL_holdsIn_27 : decode cL_holdsIn 27 = .ok (.ireturn, 1) := by decide +kernel
theorem dL_holdsIn_28 : decode cL_holdsIn 28 = .ok (.iconst 0, 1) := by decide +kernel
theorem dL_holdsIn_29 : decode cL_holdsIn 29 = .ok (.ireturn, 1) := by decide +kernel
theorem dL_refusedBy_0 : decode cL_refusedBy 0 = .ok (.aload_n 2, 1) := by decide +kernel
theorem dL_refusedBy_1 : decode cL_refusedBy 1 = .ok (.iconst 0, 1) := by decide +kernel
theorem dL_refusedBy_2 : decode cL_refusedBy 2 = .ok (.aload_n 0, 1) := by decide +kernel
theorem dL_refusedBy_3 : decode cL_refusedBy 3 = .ok (.iload_n 1, 1) := by decide +kernel
theorem dL_refusedBy_4 : decode cL_refusedBy 4 = .ok (.invokevirtual 73, 3) := by decide +kernel
theorem dL_refusedBy_7 : decode cL_refusedBy 7 = .ok (.i2l, 1) := by decide +kernel
theorem dL_refusedBy_8 : decode cL_refusedBy 8 = .ok (.lastore, 1) := by decide +kernel
theorem dL_refusedBy_9 : decode cL_refusedBy 9 = .ok (.goto 6, 3) := by decide +kernel
theorem dL_refusedBy_12 : decode cL_refusedBy 12 = .ok (.astore_n 3, 1) := by decide +kernel
theorem dL_refusedBy_13 : decode cL_refusedBy 13 = .ok (.iconst 1, 1) := by decide +kernel
theorem dL_refusedBy_14 : decode cL_refusedBy 14 = .ok (.ireturn, 1) := by decide +kernel
theorem dL_refusedBy_15 : decode cL_refusedBy 15 = .ok (.iconst 0, 1) := by decide +kernel
theorem dL_refusedBy_16 : decode cL_refusedBy 16 = .ok (.ireturn, 1) := by decide +kernel
theorem dL_finesOf_0 : decode cL_finesOf 0 = .ok (.aload_n 2, 1) := by decide +kernel
theorem dL_finesOf_1 : decode cL_finesOf 1 = .ok (.iconst 0, 1) := by decide +kernel
theorem dL_finesOf_2 : decode cL_finesOf 2 = .ok (.aload_n 0, 1) := by decide +kernel
theorem dL_finesOf_3 : decode cL_finesOf 3 = .ok (.iload_n 1, 1) := by decide +kernel
theorem dL_finesOf_4 : decode cL_finesOf 4 = .ok (.invokevirtual 76, 3) := by decide +kernel
theorem dL_finesOf_7 : decode cL_finesOf 7 = .ok (.i2l, 1) := by decide +kernel
theorem dL_finesOf_8 : decode cL_finesOf 8 = .ok (.lastore, 1) := by decide +kernel
theorem dL_finesOf_9 : decode cL_finesOf 9 = .ok (.goto 6, 3) := by decide +kernel
theorem dL_finesOf_12 : decode cL_finesOf 12 = .ok (.astore_n 3, 1) := by decide +kernel
theorem dL_finesOf_13 : decode cL_finesOf 13 = .ok (.iconst 1, 1) := by decide +kernel
theorem dL_finesOf_14 : decode cL_finesOf 14 = .ok (.ireturn, 1) := by decide +kernel
theorem dL_finesOf_15 : decode cL_finesOf 15 = .ok (.iconst 0, 1) := by decide +kernel
theorem dL_finesOf_16 : decode cL_finesOf 16 = .ok (.ireturn, 1) := by decide +kernel
theorem dL_canStand_0 : decode cL_canStand 0 = .ok (.aload_n 2, 1) := by decide +kernel
theorem dL_canStand_1 : decode cL_canStand 1 = .ok (.iconst 0, 1) := by decide +kernel
theorem dL_canStand_2 : decode cL_canStand 2 = .ok (.aload_n 0, 1) := by decide +kernel
theorem dL_canStand_3 : decode cL_canStand 3 = .ok (.iload_n 1, 1) := by decide +kernel
theorem dL_canStand_4 : decode cL_canStand 4 = .ok (.invokevirtual 79, 3) := by decide +kernel
theorem dL_canStand_7 : decode cL_canStand 7 = .ok (.ifCond .eq 7, 3) := by decide +kernel
theorem dL_canStand_10 : decode cL_canStand 10 = .ok (.lconst 1, 1) := by decide +kernel
theorem dL_canStand_11 : decode cL_canStand 11 = .ok (.goto 4, 3) := by decide +kernel
theorem dL_canStand_14 : decode cL_canStand 14 = .ok (.lconst 0, 1) := by decide +kernel
theorem dL_canStand_15 : decode cL_canStand 15 = .ok (.lastore, 1) := by decide +kernel
theorem dL_canStand_16 : decode cL_canStand 16 = .ok (.goto 6, 3) := by decide +kernel
theorem dL_canStand_19 : decode cL_canStand 19 = .ok (.astore_n 3, 1) := by decide +kernel
theorem dL_canStand_20 : decode cL_canStand 20 = .ok (.iconst 1, 1) := by decide +kernel
theorem dL_canStand_21 : decode cL_canStand 21 = .ok (.ireturn, 1) := by decide +kernel
theorem dL_canStand_22 : decode cL_canStand 22 = .ok (.iconst 0, 1) := by decide +kernel
theorem dL_canStand_23 : decode cL_canStand 23 = .ok (.ireturn, 1) := by decide +kernel
theorem dL_canStandBySplitting_0 : decode cL_canStandBySplitting 0 = .ok (.aload_n 2, 1) := by decide +kernel
theorem dL_canStandBySplitting_1 : decode cL_canStandBySplitting 1 = .ok (.iconst 0, 1) := by decide +kernel
theorem dL_canStandBySplitting_2 : decode cL_canStandBySplitting 2 = .ok (.aload_n 0, 1) := by decide +kernel
theorem dL_canStandBySplitting_3 : decode cL_canStandBySplitting 3 = .ok (.iload_n 1, 1) := by decide +kernel
theorem dL_canStandBySplitting_4 : decode cL_canStandBySplitting 4 = .ok (.invokevirtual 82, 3) := by decide +kernel
theorem dL_canStandBySplitting_7 : decode cL_canStandBySplitting 7 = .ok (.ifCond .eq 7, 3) := by decide +kernel
theorem dL_canStandBySplitting_10 : decode cL_canStandBySplitting 10 = .ok (.lconst 1, 1) := by decide +kernel
theorem dL_canStandBySplitting_11 : decode cL_canStandBySplitting 11 = .ok (.goto 4, 3) := by decide +kernel
theorem dL_canStandBySplitting_14 : decode cL_canStandBySplitting 14 = .ok (.lconst 0, 1) := by decide +kernel
theorem dL_canStandBySplitting_15 : decode cL_canStandBySplitting 15 = .ok (.lastore, 1) := by decide +kernel
theorem dL_canStandBySplitting_16 : decode cL_canStandBySplitting 16 = .ok (.goto 6, 3) := by decide +kernel
theorem dL_canStandBySplitting_19 : decode cL_canStandBySplitting 19 = .ok (.astore_n 3, 1) := by decide +kernel
theorem dL_canStandBySplitting_20 : decode cL_canStandBySplitting 20 = .ok (.iconst 1, 1) := by decide +kernel
theorem dL_canStandBySplitting_21 : decode cL_canStandBySplitting 21 = .ok (.ireturn, 1) := by decide +kernel
theorem dL_canStandBySplitting_22 : decode cL_canStandBySplitting 22 = .ok (.iconst 0, 1) := by decide +kernel
theorem dL_canStandBySplitting_23 : decode cL_canStandBySplitting 23 = .ok (.ireturn, 1) := by decide +kernel
theorem dL_canStandByJoining_0 : decode cL_canStandByJoining 0 = .ok (.aload_n 2, 1) := by decide +kernel
theorem dL_canStandByJoining_1 : decode cL_canStandByJoining 1 = .ok (.iconst 0, 1) := by decide +kernel
theorem dL_canStandByJoining_2 : decode cL_canStandByJoining 2 = .ok (.aload_n 0, 1) := by decide +kernel
theorem dL_canStandByJoining_3 : decode cL_canStandByJoining 3 = .ok (.iload_n 1, 1) := by decide +kernel
theorem dL_canStandByJoining_4 : decode cL_canStandByJoining 4 = .ok (.invokevirtual 85, 3) := by decide +kernel
theorem dL_canStandByJoining_7 : decode cL_canStandByJoining 7 = .ok (.ifCond .eq 7, 3) := by decide +kernel
theorem dL_canStandByJoining_10 : decode cL_canStandByJoining 10 = .ok (.lconst 1, 1) := by decide +kernel
theorem dL_canStandByJoining_11 : decode cL_canStandByJoining 11 = .ok (.goto 4, 3) := by decide +kernel
theorem dL_canStandByJoining_14 : decode cL_canStandByJoining 14 = .ok (.lconst 0, 1) := by decide +kernel
theorem dL_canStandByJoining_15 : decode cL_canStandByJoining 15 = .ok (.lastore, 1) := by decide +kernel
theorem dL_canStandByJoining_16 : decode cL_canStandByJoining 16 = .ok (.goto 6, 3) := by decide +kernel
theorem dL_canStandByJoining_19 : decode cL_canStandByJoining 19 = .ok (.astore_n 3, 1) := by decide +kernel
theorem dL_canStandByJoining_20 : decode cL_canStandByJoining 20 = .ok (.iconst 1, 1) := by decide +kernel
theorem dL_canStandByJoining_21 : decode cL_canStandByJoining 21 = .ok (.ireturn, 1) := by decide +kernel
theorem dL_canStandByJoining_22 : decode cL_canStandByJoining 22 = .ok (.iconst 0, 1) := by decide +kernel
theorem dL_canStandByJoining_23 : decode cL_canStandByJoining 23 = .ok (.ireturn, 1) := by decide +kernel
theorem dL_joined_0 : decode cL_joined 0 = .ok (.aload_n 2, 1) := by decide +kernel
theorem dL_joined_1 : decode cL_joined 1 = .ok (.iconst 0, 1) := by decide +kernel
theorem dL_joined_2 : decode cL_joined 2 = .ok (.aload_n 0, 1) := by decide +kernel
theorem dL_joined_3 : decode cL_joined 3 = .ok (.iload_n 1, 1) := by decide +kernel
theorem dL_joined_4 : decode cL_joined 4 = .ok (.invokevirtual 88, 3) := by decide +kernel
theorem dL_joined_7 : decode cL_joined 7 = .ok (.i2l, 1) := by decide +kernel
theorem dL_joined_8 : decode cL_joined 8 = .ok (.lastore, 1) := by decide +kernel
theorem dL_joined_9 : decode cL_joined 9 = .ok (.goto 6, 3) := by decide +kernel
theorem dL_joined_12 : decode cL_joined 12 = .ok (.astore_n 3, 1) := by decide +kernel
theorem dL_joined_13 : decode cL_joined 13 = .ok (.iconst 1, 1) := by decide +kernel
theorem dL_joined_14 : decode cL_joined 14 = .ok (.ireturn, 1) := by decide +kernel
theorem dL_joined_15 : decode cL_joined 15 = .ok (.iconst 0, 1) := by decide +kernel
theorem dL_joined_16 : decode cL_joined 16 = .ok (.ireturn, 1) := by decide +kernel
theorem dL_forced_0 : decode cL_forced 0 = .ok (.aload_n 2, 1) := by decide +kernel
theorem dL_forced_1 : decode cL_forced 1 = .ok (.iconst 0, 1) := by decide +kernel
theorem dL_forced_2 : decode cL_forced 2 = .ok (.aload_n 0, 1) := by decide +kernel
theorem dL_forced_3 : decode cL_forced 3 = .ok (.iload_n 1, 1) := by decide +kernel
theorem dL_forced_4 : decode cL_forced 4 = .ok (.invokevirtual 91, 3) := by decide +kernel
theorem dL_forced_7 : decode cL_forced 7 = .ok (.i2l, 1) := by decide +kernel
theorem dL_forced_8 : decode cL_forced 8 = .ok (.lastore, 1) := by decide +kernel
theorem dL_forced_9 : decode cL_forced 9 = .ok (.goto 6, 3) := by decide +kernel
theorem dL_forced_12 : decode cL_forced 12 = .ok (.astore_n 3, 1) := by decide +kernel
theorem dL_forced_13 : decode cL_forced 13 = .ok (.iconst 1, 1) := by decide +kernel
theorem dL_forced_14 : decode cL_forced 14 = .ok (.ireturn, 1) := by decide +kernel
theorem dL_forced_15 : decode cL_forced 15 = .ok (.iconst 0, 1) := by decide +kernel
theorem dL_forced_16 : decode cL_forced 16 = .ok (.ireturn, 1) := by decide +kernel
theorem dL_follows_0 : decode cL_follows 0 = .ok (.aload_n 2, 1) := by decide +kernel
theorem dL_follows_1 : decode cL_follows 1 = .ok (.iconst 0, 1) := by decide +kernel
theorem dL_follows_2 : decode cL_follows 2 = .ok (.aload_n 0, 1) := by decide +kernel
theorem dL_follows_3 : decode cL_follows 3 = .ok (.iload_n 1, 1) := by decide +kernel
theorem dL_follows_4 : decode cL_follows 4 = .ok (.invokevirtual 94, 3) := by decide +kernel
theorem dL_follows_7 : decode cL_follows 7 = .ok (.ifCond .eq 7, 3) := by decide +kernel
theorem dL_follows_10 : decode cL_follows 10 = .ok (.lconst 1, 1) := by decide +kernel
theorem dL_follows_11 : decode cL_follows 11 = .ok (.goto 4, 3) := by decide +kernel
theorem dL_follows_14 : decode cL_follows 14 = .ok (.lconst 0, 1) := by decide +kernel
theorem dL_follows_15 : decode cL_follows 15 = .ok (.lastore, 1) := by decide +kernel
theorem dL_follows_16 : decode cL_follows 16 = .ok (.goto 6, 3) := by decide +kernel
theorem dL_follows_19 : decode cL_follows 19 = .ok (.astore_n 3, 1) := by decide +kernel
theorem dL_follows_20 : decode cL_follows 20 = .ok (.iconst 1, 1) := by decide +kernel
theorem dL_follows_21 : decode cL_follows 21 = .ok (.ireturn, 1) := by decide +kernel
theorem dL_follows_22 : decode cL_follows 22 = .ok (.iconst 0, 1) := by decide +kernel
theorem dL_follows_23 : decode cL_follows 23 = .ok (.ireturn, 1) := by decide +kernel
theorem dL_followsBySplitting_0 : decode cL_followsBySplitting 0 = .ok (.aload_n 2, 1) := by decide +kernel
theorem dL_followsBySplitting_1 : decode cL_followsBySplitting 1 = .ok (.iconst 0, 1) := by decide +kernel
theorem dL_followsBySplitting_2 : decode cL_followsBySplitting 2 = .ok (.aload_n 0, 1) := by decide +kernel
theorem dL_followsBySplitting_3 : decode cL_followsBySplitting 3 = .ok (.iload_n 1, 1) := by decide +kernel
theorem dL_followsBySplitting_4 : decode cL_followsBySplitting 4 = .ok (.invokevirtual 97, 3) := by decide +kernel
theorem dL_followsBySplitting_7 : decode cL_followsBySplitting 7 = .ok (.ifCond .eq 7, 3) := by decide +kernel
theorem dL_followsBySplitting_10 : decode cL_followsBySplitting 10 = .ok (.lconst 1, 1) := by decide +kernel
theorem dL_followsBySplitting_11 : decode cL_followsBySplitting 11 = .ok (.goto 4, 3) := by decide +kernel
theorem dL_followsBySplitting_14 : decode cL_followsBySplitting 14 = .ok (.lconst 0, 1) := by decide +kernel
theorem dL_followsBySplitting_15 : decode cL_followsBySplitting 15 = .ok (.lastore, 1) := by decide +kernel
theorem dL_followsBySplitting_16 : decode cL_followsBySplitting 16 = .ok (.goto 6, 3) := by decide +kernel
theorem dL_followsBySplitting_19 : decode cL_followsBySplitting 19 = .ok (.astore_n 3, 1) := by decide +kernel
theorem dL_followsBySplitting_20 : decode cL_followsBySplitting 20 = .ok (.iconst 1, 1) := by decide +kernel
theorem dL_followsBySplitting_21 : decode cL_followsBySplitting 21 = .ok (.ireturn, 1) := by decide +kernel
theorem dL_followsBySplitting_22 : decode cL_followsBySplitting 22 = .ok (.iconst 0, 1) := by decide +kernel
theorem dL_followsBySplitting_23 : decode cL_followsBySplitting 23 = .ok (.ireturn, 1) := by decide +kernel
theorem dL_finesIn_0 : decode cL_finesIn 0 = .ok (.aload_n 2, 1) := by decide +kernel
theorem dL_finesIn_1 : decode cL_finesIn 1 = .ok (.iconst 0, 1) := by decide +kernel
theorem dL_finesIn_2 : decode cL_finesIn 2 = .ok (.aload_n 0, 1) := by decide +kernel
theorem dL_finesIn_3 : decode cL_finesIn 3 = .ok (.iload_n 1, 1) := by decide +kernel
theorem dL_finesIn_4 : decode cL_finesIn 4 = .ok (.invokevirtual 100, 3) := by decide +kernel
theorem dL_finesIn_7 : decode cL_finesIn 7 = .ok (.i2l, 1) := by decide +kernel
theorem dL_finesIn_8 : decode cL_finesIn 8 = .ok (.lastore, 1) := by decide +kernel
theorem dL_finesIn_9 : decode cL_finesIn 9 = .ok (.goto 6, 3) := by decide +kernel
theorem dL_finesIn_12 : decode cL_finesIn 12 = .ok (.astore_n 3, 1) := by decide +kernel
theorem dL_finesIn_13 : decode cL_finesIn 13 = .ok (.iconst 1, 1) := by decide +kernel
theorem dL_finesIn_14 : decode cL_finesIn 14 = .ok (.ireturn, 1) := by decide +kernel
theorem dL_finesIn_15 : decode cL_finesIn 15 = .ok (.iconst 0, 1) := by decide +kernel
theorem dL_finesIn_16 : decode cL_finesIn 16 = .ok (.ireturn, 1) := by decide +kernel
theorem dL_law_0 : decode cL_law 0 = .ok (.new 8, 3) := by decide +kernel
theorem dL_law_3 : decode cL_law 3 = .ok (.dup, 1) := by decide +kernel
theorem dL_law_4 : decode cL_law 4 = .ok (.invokespecial 103, 3) := by decide +kernel
theorem dL_law_7 : decode cL_law 7 = .ok (.astore_n 1, 1) := by decide +kernel
theorem dL_law_8 : decode cL_law 8 = .ok (.new 104, 3) := by decide +kernel
theorem dL_law_11 : decode cL_law 11 = .ok (.dup, 1) := by decide +kernel
theorem dL_law_12 : decode cL_law 12 = .ok (.invokespecial 106, 3) := by decide +kernel
theorem dL_law_15 : decode cL_law 15 = .ok (.astore_n 2, 1) := by decide +kernel
theorem dL_law_16 : decode cL_law 16 = .ok (.iconst 1, 1) := by decide +kernel
theorem dL_law_17 : decode cL_law 17 = .ok (.newarray .long, 2) := by decide +kernel
theorem dL_law_19 : decode cL_law 19 = .ok (.astore_n 3, 1) := by decide +kernel
theorem dL_law_20 : decode cL_law 20 = .ok (.iconst 0, 1) := by decide +kernel
theorem dL_law_21 : decode cL_law 21 = .ok (.istore 4, 2) := by decide +kernel
theorem dL_law_23 : decode cL_law 23 = .ok (.iload 4, 2) := by decide +kernel
theorem dL_law_25 : decode cL_law 25 = .ok (.aload_n 0, 1) := by decide +kernel
theorem dL_law_26 : decode cL_law 26 = .ok (.arraylength, 1) := by decide +kernel
theorem dL_law_27 : decode cL_law 27 = .ok (.iconst 4, 1) := by decide +kernel
theorem dL_law_28 : decode cL_law 28 = .ok (.isub, 1) := by decide +kernel
theorem dL_law_29 : decode cL_law 29 = .ok (.if_icmp .gt 2280, 3) := by decide +kernel
theorem dL_law_32 : decode cL_law 32 = .ok (.aload_n 0, 1) := by decide +kernel
theorem dL_law_33 : decode cL_law 33 = .ok (.iload 4, 2) := by decide +kernel
theorem dL_law_35 : decode cL_law 35 = .ok (.iaload, 1) := by decide +kernel
theorem dL_law_36 : decode cL_law 36 = .ok (.bipush 63, 2) := by decide +kernel
theorem dL_law_38 : decode cL_law 38 = .ok (.iand, 1) := by decide +kernel
theorem dL_law_39 : decode cL_law 39 = .ok (.tableswitch 2264 0 54 #[233, 313, 369, 460, 528, 584, 640, 696, 752, 765, 778, 822, 835, 879, 923, 936, 992, 1048, 1104, 1167, 1223, 1298, 1311, 1324, 1337, 1350, 1406, 1462, 1475, 1488, 1551, 1614, 1677, 1733, 1746, 1759, 1772, 1828, 1891, 1954, 1967, 1980, 1993, 2006, 2019, 2032, 2045, 2058, 2071, 2084, 2097, 2110, 2166, 2207, 2250], 233) := by decide +kernel
theorem dL_law_272 : decode cL_law 272 = .ok (.aload_n 1, 1) := by decide +kernel
theorem dL_law_273 : decode cL_law 273 = .ok (.aload_n 0, 1) := by decide +kernel
theorem dL_law_274 : decode cL_law 274 = .ok (.iload 4, 2) := by decide +kernel
theorem dL_law_276 : decode cL_law 276 = .ok (.iconst 1, 1) := by decide +kernel
theorem dL_law_277 : decode cL_law 277 = .ok (.iadd, 1) := by decide +kernel
theorem dL_law_278 : decode cL_law 278 = .ok (.iaload, 1) := by decide +kernel
theorem dL_law_279 : decode cL_law 279 = .ok (.aload_n 0, 1) := by decide +kernel
theorem dL_law_280 : decode cL_law 280 = .ok (.iload 4, 2) := by decide +kernel
theorem dL_law_282 : decode cL_law 282 = .ok (.iconst 2, 1) := by decide +kernel
theorem dL_law_283 : decode cL_law 283 = .ok (.iadd, 1) := by decide +kernel
theorem dL_law_284 : decode cL_law 284 = .ok (.iaload, 1) := by decide +kernel
theorem dL_law_285 : decode cL_law 285 = .ok (.aload_n 0, 1) := by decide +kernel
theorem dL_law_286 : decode cL_law 286 = .ok (.iload 4, 2) := by decide +kernel
theorem dL_law_288 : decode cL_law 288 = .ok (.iconst 3, 1) := by decide +kernel
theorem dL_law_289 : decode cL_law 289 = .ok (.iadd, 1) := by decide +kernel
theorem dL_law_290 : decode cL_law 290 = .ok (.iaload, 1) := by decide +kernel
theorem dL_law_291 : decode cL_law 291 = .ok (.aload_n 3, 1) := by decide +kernel
theorem dL_law_292 : decode cL_law 292 = .ok (.invokestatic 107, 3) := by decide +kernel
theorem dL_law_295 : decode cL_law 295 = .ok (.istore 5, 2) := by decide +kernel
theorem dL_law_297 : decode cL_law 297 = .ok (.aload_n 2, 1) := by decide +kernel
theorem dL_law_298 : decode cL_law 298 = .ok (.aload_n 0, 1) := by decide +kernel
theorem dL_law_299 : decode cL_law 299 = .ok (.iload 4, 2) := by decide +kernel
theorem dL_law_301 : decode cL_law 301 = .ok (.iconst 1, 1) := by decide +kernel
theorem dL_law_302 : decode cL_law 302 = .ok (.iadd, 1) := by decide +kernel
theorem dL_law_303 : decode cL_law 303 = .ok (.iaload, 1) := by decide +kernel
theorem dL_law_304 : decode cL_law 304 = .ok (.aload_n 0, 1) := by decide +kernel
theorem dL_law_305 : decode cL_law 305 = .ok (.iload 4, 2) := by decide +kernel
theorem dL_law_307 : decode cL_law 307 = .ok (.iconst 2, 1) := by decide +kernel
theorem dL_law_308 : decode cL_law 308 = .ok (.iadd, 1) := by decide +kernel
theorem dL_law_309 : decode cL_law 309 = .ok (.iaload, 1) := by decide +kernel
theorem dL_law_310 : decode cL_law 310 = .ok (.aload_n 0, 1) := by decide +kernel
theorem dL_law_311 : decode cL_law 311 = .ok (.iload 4, 2) := by decide +kernel
theorem dL_law_313 : decode cL_law 313 = .ok (.iconst 3, 1) := by decide +kernel
theorem dL_law_314 : decode cL_law 314 = .ok (.iadd, 1) := by decide +kernel
theorem dL_law_315 : decode cL_law 315 = .ok (.iaload, 1) := by decide +kernel
theorem dL_law_316 : decode cL_law 316 = .ok (.invokevirtual 112, 3) := by decide +kernel
theorem dL_law_319 : decode cL_law 319 = .ok (.istore 6, 2) := by decide +kernel
theorem dL_law_321 : decode cL_law 321 = .ok (.aload_n 2, 1) := by decide +kernel
theorem dL_law_322 : decode cL_law 322 = .ok (.invokevirtual 113, 3) := by decide +kernel
theorem dL_law_325 : decode cL_law 325 = .ok (.iload 5, 2) := by decide +kernel
theorem dL_law_327 : decode cL_law 327 = .ok (.if_icmp .eq 5, 3) := by decide +kernel
theorem dL_law_330 : decode cL_law 330 = .ok (.iconst 0, 1) := by decide +kernel
theorem dL_law_331 : decode cL_law 331 = .ok (.ireturn, 1) := by decide +kernel
theorem dL_law_332 : decode cL_law 332 = .ok (.iload 5, 2) := by decide +kernel
theorem dL_law_334 : decode cL_law 334 = .ok (.ifCond .ne 15, 3) := by decide +kernel
theorem dL_law_337 : decode cL_law 337 = .ok (.aload_n 3, 1) := by decide +kernel
theorem dL_law_338 : decode cL_law 338 = .ok (.iconst 0, 1) := by decide +kernel
theorem dL_law_339 : decode cL_law 339 = .ok (.laload, 1) := by decide +kernel
theorem dL_law_340 : decode cL_law 340 = .ok (.iload 6, 2) := by decide +kernel
theorem dL_law_342 : decode cL_law 342 = .ok (.i2l, 1) := by decide +kernel
theorem dL_law_343 : decode cL_law 343 = .ok (.lcmp, 1) := by decide +kernel
theorem dL_law_344 : decode cL_law 344 = .ok (.ifCond .eq 5, 3) := by decide +kernel
theorem dL_law_347 : decode cL_law 347 = .ok (.iconst 0, 1) := by decide +kernel
theorem dL_law_348 : decode cL_law 348 = .ok (.ireturn, 1) := by decide +kernel
theorem dL_law_349 : decode cL_law 349 = .ok (.goto 1954, 3) := by decide +kernel
theorem dL_law_352 : decode cL_law 352 = .ok (.aload_n 1, 1) := by decide +kernel
theorem dL_law_353 : decode cL_law 353 = .ok (.aload_n 0, 1) := by decide +kernel
theorem dL_law_354 : decode cL_law 354 = .ok (.iload 4, 2) := by decide +kernel
theorem dL_law_356 : decode cL_law 356 = .ok (.iconst 1, 1) := by decide +kernel
theorem dL_law_357 : decode cL_law 357 = .ok (.iadd, 1) := by decide +kernel
theorem dL_law_358 : decode cL_law 358 = .ok (.iaload, 1) := by decide +kernel
theorem dL_law_359 : decode cL_law 359 = .ok (.aload_n 3, 1) := by decide +kernel
theorem dL_law_360 : decode cL_law 360 = .ok (.invokestatic 116, 3) := by decide +kernel
theorem dL_law_363 : decode cL_law 363 = .ok (.istore 5, 2) := by decide +kernel
theorem dL_law_365 : decode cL_law 365 = .ok (.aload_n 2, 1) := by decide +kernel
theorem dL_law_366 : decode cL_law 366 = .ok (.aload_n 0, 1) := by decide +kernel
theorem dL_law_367 : decode cL_law 367 = .ok (.iload 4, 2) := by decide +kernel
theorem dL_law_369 : decode cL_law 369 = .ok (.iconst 1, 1) := by decide +kernel
theorem dL_law_370 : decode cL_law 370 = .ok (.iadd, 1) := by decide +kernel
theorem dL_law_371 : decode cL_law 371 = .ok (.iaload, 1) := by decide +kernel
theorem dL_law_372 : decode cL_law 372 = .ok (.invokevirtual 119, 3) := by decide +kernel
theorem dL_law_375 : decode cL_law 375 = .ok (.istore 6, 2) := by decide +kernel
theorem dL_law_377 : decode cL_law 377 = .ok (.aload_n 2, 1) := by decide +kernel
theorem dL_law_378 : decode cL_law 378 = .ok (.invokevirtual 113, 3) := by decide +kernel
theorem dL_law_381 : decode cL_law 381 = .ok (.iload 5, 2) := by decide +kernel
theorem dL_law_383 : decode cL_law 383 = .ok (.if_icmp .eq 5, 3) := by decide +kernel
theorem dL_law_386 : decode cL_law 386 = .ok (.iconst 0, 1) := by decide +kernel
theorem dL_law_387 : decode cL_law 387 = .ok (.ireturn, 1) := by decide +kernel
theorem dL_law_388 : decode cL_law 388 = .ok (.iload 5, 2) := by decide +kernel
theorem dL_law_390 : decode cL_law 390 = .ok (.ifCond .ne 15, 3) := by decide +kernel
theorem dL_law_393 : decode cL_law 393 = .ok (.aload_n 3, 1) := by decide +kernel
theorem dL_law_394 : decode cL_law 394 = .ok (.iconst 0, 1) := by decide +kernel
theorem dL_law_395 : decode cL_law 395 = .ok (.laload, 1) := by decide +kernel
theorem dL_law_396 : decode cL_law 396 = .ok (.iload 6, 2) := by decide +kernel
theorem dL_law_398 : decode cL_law 398 = .ok (.i2l, 1) := by decide +kernel
theorem dL_law_399 : decode cL_law 399 = .ok (.lcmp, 1) := by decide +kernel
theorem dL_law_400 : decode cL_law 400 = .ok (.ifCond .eq 5, 3) := by decide +kernel
theorem dL_law_403 : decode cL_law 403 = .ok (.iconst 0, 1) := by decide +kernel
theorem dL_law_404 : decode cL_law 404 = .ok (.ireturn, 1) := by decide +kernel
theorem dL_law_405 : decode cL_law 405 = .ok (.goto 1898, 3) := by decide +kernel
theorem dL_law_408 : decode cL_law 408 = .ok (.aload_n 1, 1) := by decide +kernel
theorem dL_law_409 : decode cL_law 409 = .ok (.aload_n 0, 1) := by decide +kernel
theorem dL_law_410 : decode cL_law 410 = .ok (.iload 4, 2) := by decide +kernel
theorem dL_law_412 : decode cL_law 412 = .ok (.iconst 1, 1) := by decide +kernel
theorem dL_law_413 : decode cL_law 413 = .ok (.iadd, 1) := by decide +kernel
theorem dL_law_414 : decode cL_law 414 = .ok (.iaload, 1) := by decide +kernel
theorem dL_law_415 : decode cL_law 415 = .ok (.aload_n 0, 1) := by decide +kernel
theorem dL_law_416 : decode cL_law 416 = .ok (.iload 4, 2) := by decide +kernel
theorem dL_law_418 : decode cL_law 418 = .ok (.iconst 2, 1) := by decide +kernel
theorem dL_law_419 : decode cL_law 419 = .ok (.iadd, 1) := by decide +kernel
theorem dL_law_420 : decode cL_law 420 = .ok (.iaload, 1) := by decide +kernel
theorem dL_law_421 : decode cL_law 421 = .ok (.ifCond .eq 7, 3) := by decide +kernel
theorem dL_law_424 : decode cL_law 424 = .ok (.iconst 1, 1) := by decide +kernel
theorem dL_law_425 : decode cL_law 425 = .ok (.goto 4, 3) := by decide +kernel
theorem dL_law_428 : decode cL_law 428 = .ok (.iconst 0, 1) := by decide +kernel
theorem dL_law_429 : decode cL_law 429 = .ok (.aload_n 3, 1) := by decide +kernel
theorem dL_law_430 : decode cL_law 430 = .ok (.invokestatic 120, 3) := by decide +kernel
theorem dL_law_433 : decode cL_law 433 = .ok (.istore 5, 2) := by decide +kernel
theorem dL_law_435 : decode cL_law 435 = .ok (.aload_n 2, 1) := by decide +kernel
theorem dL_law_436 : decode cL_law 436 = .ok (.aload_n 0, 1) := by decide +kernel
theorem dL_law_437 : decode cL_law 437 = .ok (.iload 4, 2) := by decide +kernel
theorem dL_law_439 : decode cL_law 439 = .ok (.iconst 1, 1) := by decide +kernel
theorem dL_law_440 : decode cL_law 440 = .ok (.iadd, 1) := by decide +kernel
theorem dL_law_441 : decode cL_law 441 = .ok (.iaload, 1) := by decide +kernel
theorem dL_law_442 : decode cL_law 442 = .ok (.aload_n 0, 1) := by decide +kernel
theorem dL_law_443 : decode cL_law 443 = .ok (.iload 4, 2) := by decide +kernel
theorem dL_law_445 : decode cL_law 445 = .ok (.iconst 2, 1) := by decide +kernel
theorem dL_law_446 : decode cL_law 446 = .ok (.iadd, 1) := by decide +kernel
theorem dL_law_447 : decode cL_law 447 = .ok (.iaload, 1) := by decide +kernel
theorem dL_law_448 : decode cL_law 448 = .ok (.ifCond .eq 7, 3) := by decide +kernel
theorem dL_law_451 : decode cL_law 451 = .ok (.iconst 1, 1) := by decide +kernel
theorem dL_law_452 : decode cL_law 452 = .ok (.goto 4, 3) := by decide +kernel
theorem dL_law_455 : decode cL_law 455 = .ok (.iconst 0, 1) := by decide +kernel
theorem dL_law_456 : decode cL_law 456 = .ok (.invokevirtual 123, 3) := by decide +kernel
theorem dL_law_459 : decode cL_law 459 = .ok (.istore 6, 2) := by decide +kernel
theorem dL_law_461 : decode cL_law 461 = .ok (.aload_n 2, 1) := by decide +kernel
theorem dL_law_462 : decode cL_law 462 = .ok (.invokevirtual 113, 3) := by decide +kernel
theorem dL_law_465 : decode cL_law 465 = .ok (.iload 5, 2) := by decide +kernel
theorem dL_law_467 : decode cL_law 467 = .ok (.if_icmp .eq 5, 3) := by decide +kernel
theorem dL_law_470 : decode cL_law 470 = .ok (.iconst 0, 1) := by decide +kernel
theorem dL_law_471 : decode cL_law 471 = .ok (.ireturn, 1) := by decide +kernel
theorem dL_law_472 : decode cL_law 472 = .ok (.iload 5, 2) := by decide +kernel
theorem dL_law_474 : decode cL_law 474 = .ok (.ifCond .ne 22, 3) := by decide +kernel
theorem dL_law_477 : decode cL_law 477 = .ok (.aload_n 3, 1) := by decide +kernel
theorem dL_law_478 : decode cL_law 478 = .ok (.iconst 0, 1) := by decide +kernel
theorem dL_law_479 : decode cL_law 479 = .ok (.laload, 1) := by decide +kernel
theorem dL_law_480 : decode cL_law 480 = .ok (.iload 6, 2) := by decide +kernel
theorem dL_law_482 : decode cL_law 482 = .ok (.ifCond .eq 7, 3) := by decide +kernel
theorem dL_law_485 : decode cL_law 485 = .ok (.lconst 1, 1) := by decide +kernel
theorem dL_law_486 : decode cL_law 486 = .ok (.goto 4, 3) := by decide +kernel
theorem dL_law_489 : decode cL_law 489 = .ok (.lconst 0, 1) := by decide +kernel
theorem dL_law_490 : decode cL_law 490 = .ok (.lcmp, 1) := by decide +kernel
theorem dL_law_491 : decode cL_law 491 = .ok (.ifCond .eq 5, 3) := by decide +kernel
theorem dL_law_494 : decode cL_law 494 = .ok (.iconst 0, 1) := by decide +kernel
theorem dL_law_495 : decode cL_law 495 = .ok (.ireturn, 1) := by decide +kernel
theorem dL_law_496 : decode cL_law 496 = .ok (.goto 1807, 3) := by decide +kernel
theorem dL_law_499 : decode cL_law 499 = .ok (.aload_n 1, 1) := by decide +kernel
theorem dL_law_500 : decode cL_law 500 = .ok (.aload_n 0, 1) := by decide +kernel
theorem dL_law_501 : decode cL_law 501 = .ok (.iload 4, 2) := by decide +kernel
theorem dL_law_503 : decode cL_law 503 = .ok (.iconst 1, 1) := by decide +kernel
theorem dL_law_504 : decode cL_law 504 = .ok (.iadd, 1) := by decide +kernel
theorem dL_law_505 : decode cL_law 505 = .ok (.iaload, 1) := by decide +kernel
theorem dL_law_506 : decode cL_law 506 = .ok (.aload_n 0, 1) := by decide +kernel
theorem dL_law_507 : decode cL_law 507 = .ok (.iload 4, 2) := by decide +kernel
theorem dL_law_509 : decode cL_law 509 = .ok (.iconst 2, 1) := by decide +kernel
theorem dL_law_510 : decode cL_law 510 = .ok (.iadd, 1) := by decide +kernel
theorem dL_law_511 : decode cL_law 511 = .ok (.iaload, 1) := by decide +kernel
theorem dL_law_512 : decode cL_law 512 = .ok (.aload_n 3, 1) := by decide +kernel
theorem dL_law_513 : decode cL_law 513 = .ok (.invokestatic 124, 3) := by decide +kernel
theorem dL_law_516 : decode cL_law 516 = .ok (.istore 5, 2) := by decide +kernel
theorem dL_law_518 : decode cL_law 518 = .ok (.aload_n 2, 1) := by decide +kernel
theorem dL_law_519 : decode cL_law 519 = .ok (.aload_n 0, 1) := by decide +kernel
theorem dL_law_520 : decode cL_law 520 = .ok (.iload 4, 2) := by decide +kernel
theorem dL_law_522 : decode cL_law 522 = .ok (.iconst 1, 1) := by decide +kernel
theorem dL_law_523 : decode cL_law 523 = .ok (.iadd, 1) := by decide +kernel
theorem dL_law_524 : decode cL_law 524 = .ok (.iaload, 1) := by decide +kernel
theorem dL_law_525 : decode cL_law 525 = .ok (.aload_n 0, 1) := by decide +kernel
theorem dL_law_526 : decode cL_law 526 = .ok (.iload 4, 2) := by decide +kernel
theorem dL_law_528 : decode cL_law 528 = .ok (.iconst 2, 1) := by decide +kernel
theorem dL_law_529 : decode cL_law 529 = .ok (.iadd, 1) := by decide +kernel
theorem dL_law_530 : decode cL_law 530 = .ok (.iaload, 1) := by decide +kernel
theorem dL_law_531 : decode cL_law 531 = .ok (.invokevirtual 127, 3) := by decide +kernel
theorem dL_law_534 : decode cL_law 534 = .ok (.istore 6, 2) := by decide +kernel
theorem dL_law_536 : decode cL_law 536 = .ok (.aload_n 2, 1) := by decide +kernel
theorem dL_law_537 : decode cL_law 537 = .ok (.invokevirtual 113, 3) := by decide +kernel
theorem dL_law_540 : decode cL_law 540 = .ok (.iload 5, 2) := by decide +kernel
theorem dL_law_542 : decode cL_law 542 = .ok (.if_icmp .eq 5, 3) := by decide +kernel
theorem dL_law_545 : decode cL_law 545 = .ok (.iconst 0, 1) := by decide +kernel
theorem dL_law_546 : decode cL_law 546 = .ok (.ireturn, 1) := by decide +kernel
theorem dL_law_547 : decode cL_law 547 = .ok (.iload 5, 2) := by decide +kernel
theorem dL_law_549 : decode cL_law 549 = .ok (.ifCond .ne 15, 3) := by decide +kernel
theorem dL_law_552 : decode cL_law 552 = .ok (.aload_n 3, 1) := by decide +kernel
theorem dL_law_553 : decode cL_law 553 = .ok (.iconst 0, 1) := by decide +kernel
theorem dL_law_554 : decode cL_law 554 = .ok (.laload, 1) := by decide +kernel
theorem dL_law_555 : decode cL_law 555 = .ok (.iload 6, 2) := by decide +kernel
theorem dL_law_557 : decode cL_law 557 = .ok (.i2l, 1) := by decide +kernel
theorem dL_law_558 : decode cL_law 558 = .ok (.lcmp, 1) := by decide +kernel
theorem dL_law_559 : decode cL_law 559 = .ok (.ifCond .eq 5, 3) := by decide +kernel
theorem dL_law_562 : decode cL_law 562 = .ok (.iconst 0, 1) := by decide +kernel
theorem dL_law_563 : decode cL_law 563 = .ok (.ireturn, 1) := by decide +kernel
theorem dL_law_564 : decode cL_law 564 = .ok (.goto 1739, 3) := by decide +kernel
theorem dL_law_567 : decode cL_law 567 = .ok (.aload_n 1, 1) := by decide +kernel
theorem dL_law_568 : decode cL_law 568 = .ok (.aload_n 0, 1) := by decide +kernel
theorem dL_law_569 : decode cL_law 569 = .ok (.iload 4, 2) := by decide +kernel
theorem dL_law_571 : decode cL_law 571 = .ok (.iconst 1, 1) := by decide +kernel
theorem dL_law_572 : decode cL_law 572 = .ok (.iadd, 1) := by decide +kernel
theorem dL_law_573 : decode cL_law 573 = .ok (.iaload, 1) := by decide +kernel
theorem dL_law_574 : decode cL_law 574 = .ok (.aload_n 3, 1) := by decide +kernel
theorem dL_law_575 : decode cL_law 575 = .ok (.invokestatic 128, 3) := by decide +kernel
theorem dL_law_578 : decode cL_law 578 = .ok (.istore 5, 2) := by decide +kernel
theorem dL_law_580 : decode cL_law 580 = .ok (.aload_n 2, 1) := by decide +kernel
theorem dL_law_581 : decode cL_law 581 = .ok (.aload_n 0, 1) := by decide +kernel
theorem dL_law_582 : decode cL_law 582 = .ok (.iload 4, 2) := by decide +kernel
theorem dL_law_584 : decode cL_law 584 = .ok (.iconst 1, 1) := by decide +kernel
theorem dL_law_585 : decode cL_law 585 = .ok (.iadd, 1) := by decide +kernel
theorem dL_law_586 : decode cL_law 586 = .ok (.iaload, 1) := by decide +kernel
theorem dL_law_587 : decode cL_law 587 = .ok (.invokevirtual 130, 3) := by decide +kernel
theorem dL_law_590 : decode cL_law 590 = .ok (.istore 6, 2) := by decide +kernel
theorem dL_law_592 : decode cL_law 592 = .ok (.aload_n 2, 1) := by decide +kernel
theorem dL_law_593 : decode cL_law 593 = .ok (.invokevirtual 113, 3) := by decide +kernel
theorem dL_law_596 : decode cL_law 596 = .ok (.iload 5, 2) := by decide +kernel
theorem dL_law_598 : decode cL_law 598 = .ok (.if_icmp .eq 5, 3) := by decide +kernel
theorem dL_law_601 : decode cL_law 601 = .ok (.iconst 0, 1) := by decide +kernel
theorem dL_law_602 : decode cL_law 602 = .ok (.ireturn, 1) := by decide +kernel
theorem dL_law_603 : decode cL_law 603 = .ok (.iload 5, 2) := by decide +kernel
theorem dL_law_605 : decode cL_law 605 = .ok (.ifCond .ne 15, 3) := by decide +kernel
theorem dL_law_608 : decode cL_law 608 = .ok (.aload_n 3, 1) := by decide +kernel
theorem dL_law_609 : decode cL_law 609 = .ok (.iconst 0, 1) := by decide +kernel
theorem dL_law_610 : decode cL_law 610 = .ok (.laload, 1) := by decide +kernel
theorem dL_law_611 : decode cL_law 611 = .ok (.iload 6, 2) := by decide +kernel
theorem dL_law_613 : decode cL_law 613 = .ok (.i2l, 1) := by decide +kernel
theorem dL_law_614 : decode cL_law 614 = .ok (.lcmp, 1) := by decide +kernel
theorem dL_law_615 : decode cL_law 615 = .ok (.ifCond .eq 5, 3) := by decide +kernel
theorem dL_law_618 : decode cL_law 618 = .ok (.iconst 0, 1) := by decide +kernel
theorem dL_law_619 : decode cL_law 619 = .ok (.ireturn, 1) := by decide +kernel
theorem dL_law_620 : decode cL_law 620 = .ok (.goto 1683, 3) := by decide +kernel
theorem dL_law_623 : decode cL_law 623 = .ok (.aload_n 1, 1) := by decide +kernel
theorem dL_law_624 : decode cL_law 624 = .ok (.aload_n 0, 1) := by decide +kernel
theorem dL_law_625 : decode cL_law 625 = .ok (.iload 4, 2) := by decide +kernel
theorem dL_law_627 : decode cL_law 627 = .ok (.iconst 1, 1) := by decide +kernel
theorem dL_law_628 : decode cL_law 628 = .ok (.iadd, 1) := by decide +kernel
theorem dL_law_629 : decode cL_law 629 = .ok (.iaload, 1) := by decide +kernel
theorem dL_law_630 : decode cL_law 630 = .ok (.aload_n 3, 1) := by decide +kernel
theorem dL_law_631 : decode cL_law 631 = .ok (.invokestatic 131, 3) := by decide +kernel
theorem dL_law_634 : decode cL_law 634 = .ok (.istore 5, 2) := by decide +kernel
theorem dL_law_636 : decode cL_law 636 = .ok (.aload_n 2, 1) := by decide +kernel
theorem dL_law_637 : decode cL_law 637 = .ok (.aload_n 0, 1) := by decide +kernel
theorem dL_law_638 : decode cL_law 638 = .ok (.iload 4, 2) := by decide +kernel
theorem dL_law_640 : decode cL_law 640 = .ok (.iconst 1, 1) := by decide +kernel
theorem dL_law_641 : decode cL_law 641 = .ok (.iadd, 1) := by decide +kernel
theorem dL_law_642 : decode cL_law 642 = .ok (.iaload, 1) := by decide +kernel
theorem dL_law_643 : decode cL_law 643 = .ok (.invokevirtual 133, 3) := by decide +kernel
theorem dL_law_646 : decode cL_law 646 = .ok (.istore 6, 2) := by decide +kernel
theorem dL_law_648 : decode cL_law 648 = .ok (.aload_n 2, 1) := by decide +kernel
theorem dL_law_649 : decode cL_law 649 = .ok (.invokevirtual 113, 3) := by decide +kernel
theorem dL_law_652 : decode cL_law 652 = .ok (.iload 5, 2) := by decide +kernel
theorem dL_law_654 : decode cL_law 654 = .ok (.if_icmp .eq 5, 3) := by decide +kernel
theorem dL_law_657 : decode cL_law 657 = .ok (.iconst 0, 1) := by decide +kernel
theorem dL_law_658 : decode cL_law 658 = .ok (.ireturn, 1) := by decide +kernel
theorem dL_law_659 : decode cL_law 659 = .ok (.iload 5, 2) := by decide +kernel
theorem dL_law_661 : decode cL_law 661 = .ok (.ifCond .ne 15, 3) := by decide +kernel
theorem dL_law_664 : decode cL_law 664 = .ok (.aload_n 3, 1) := by decide +kernel
theorem dL_law_665 : decode cL_law 665 = .ok (.iconst 0, 1) := by decide +kernel
theorem dL_law_666 : decode cL_law 666 = .ok (.laload, 1) := by decide +kernel
theorem dL_law_667 : decode cL_law 667 = .ok (.iload 6, 2) := by decide +kernel
theorem dL_law_669 : decode cL_law 669 = .ok (.i2l, 1) := by decide +kernel
theorem dL_law_670 : decode cL_law 670 = .ok (.lcmp, 1) := by decide +kernel
theorem dL_law_671 : decode cL_law 671 = .ok (.ifCond .eq 5, 3) := by decide +kernel
theorem dL_law_674 : decode cL_law 674 = .ok (.iconst 0, 1) := by decide +kernel
theorem dL_law_675 : decode cL_law 675 = .ok (.ireturn, 1) := by decide +kernel
theorem dL_law_676 : decode cL_law 676 = .ok (.goto 1627, 3) := by decide +kernel
theorem dL_law_679 : decode cL_law 679 = .ok (.aload_n 1, 1) := by decide +kernel
theorem dL_law_680 : decode cL_law 680 = .ok (.aload_n 0, 1) := by decide +kernel
theorem dL_law_681 : decode cL_law 681 = .ok (.iload 4, 2) := by decide +kernel
theorem dL_law_683 : decode cL_law 683 = .ok (.iconst 1, 1) := by decide +kernel
theorem dL_law_684 : decode cL_law 684 = .ok (.iadd, 1) := by decide +kernel
theorem dL_law_685 : decode cL_law 685 = .ok (.iaload, 1) := by decide +kernel
theorem dL_law_686 : decode cL_law 686 = .ok (.aload_n 3, 1) := by decide +kernel
theorem dL_law_687 : decode cL_law 687 = .ok (.invokestatic 134, 3) := by decide +kernel
theorem dL_law_690 : decode cL_law 690 = .ok (.istore 5, 2) := by decide +kernel
theorem dL_law_692 : decode cL_law 692 = .ok (.aload_n 2, 1) := by decide +kernel
theorem dL_law_693 : decode cL_law 693 = .ok (.aload_n 0, 1) := by decide +kernel
theorem dL_law_694 : decode cL_law 694 = .ok (.iload 4, 2) := by decide +kernel
theorem dL_law_696 : decode cL_law 696 = .ok (.iconst 1, 1) := by decide +kernel
theorem dL_law_697 : decode cL_law 697 = .ok (.iadd, 1) := by decide +kernel
theorem dL_law_698 : decode cL_law 698 = .ok (.iaload, 1) := by decide +kernel
theorem dL_law_699 : decode cL_law 699 = .ok (.invokevirtual 136, 3) := by decide +kernel
theorem dL_law_702 : decode cL_law 702 = .ok (.istore 6, 2) := by decide +kernel
theorem dL_law_704 : decode cL_law 704 = .ok (.aload_n 2, 1) := by decide +kernel
theorem dL_law_705 : decode cL_law 705 = .ok (.invokevirtual 113, 3) := by decide +kernel
theorem dL_law_708 : decode cL_law 708 = .ok (.iload 5, 2) := by decide +kernel
theorem dL_law_710 : decode cL_law 710 = .ok (.if_icmp .eq 5, 3) := by decide +kernel
theorem dL_law_713 : decode cL_law 713 = .ok (.iconst 0, 1) := by decide +kernel
theorem dL_law_714 : decode cL_law 714 = .ok (.ireturn, 1) := by decide +kernel
theorem dL_law_715 : decode cL_law 715 = .ok (.iload 5, 2) := by decide +kernel
theorem dL_law_717 : decode cL_law 717 = .ok (.ifCond .ne 15, 3) := by decide +kernel
theorem dL_law_720 : decode cL_law 720 = .ok (.aload_n 3, 1) := by decide +kernel
theorem dL_law_721 : decode cL_law 721 = .ok (.iconst 0, 1) := by decide +kernel
theorem dL_law_722 : decode cL_law 722 = .ok (.laload, 1) := by decide +kernel
theorem dL_law_723 : decode cL_law 723 = .ok (.iload 6, 2) := by decide +kernel
theorem dL_law_725 : decode cL_law 725 = .ok (.i2l, 1) := by decide +kernel
theorem dL_law_726 : decode cL_law 726 = .ok (.lcmp, 1) := by decide +kernel
theorem dL_law_727 : decode cL_law 727 = .ok (.ifCond .eq 5, 3) := by decide +kernel
theorem dL_law_730 : decode cL_law 730 = .ok (.iconst 0, 1) := by decide +kernel
theorem dL_law_731 : decode cL_law 731 = .ok (.ireturn, 1) := by decide +kernel
theorem dL_law_732 : decode cL_law 732 = .ok (.goto 1571, 3) := by decide +kernel
theorem dL_law_735 : decode cL_law 735 = .ok (.aload_n 1, 1) := by decide +kernel
theorem dL_law_736 : decode cL_law 736 = .ok (.aload_n 0, 1) := by decide +kernel
theorem dL_law_737 : decode cL_law 737 = .ok (.iload 4, 2) := by decide +kernel
theorem dL_law_739 : decode cL_law 739 = .ok (.iconst 1, 1) := by decide +kernel
theorem dL_law_740 : decode cL_law 740 = .ok (.iadd, 1) := by decide +kernel
theorem dL_law_741 : decode cL_law 741 = .ok (.iaload, 1) := by decide +kernel
theorem dL_law_742 : decode cL_law 742 = .ok (.aload_n 3, 1) := by decide +kernel
theorem dL_law_743 : decode cL_law 743 = .ok (.invokestatic 137, 3) := by decide +kernel
theorem dL_law_746 : decode cL_law 746 = .ok (.istore 5, 2) := by decide +kernel
theorem dL_law_748 : decode cL_law 748 = .ok (.aload_n 2, 1) := by decide +kernel
theorem dL_law_749 : decode cL_law 749 = .ok (.aload_n 0, 1) := by decide +kernel
theorem dL_law_750 : decode cL_law 750 = .ok (.iload 4, 2) := by decide +kernel
theorem dL_law_752 : decode cL_law 752 = .ok (.iconst 1, 1) := by decide +kernel
theorem dL_law_753 : decode cL_law 753 = .ok (.iadd, 1) := by decide +kernel
theorem dL_law_754 : decode cL_law 754 = .ok (.iaload, 1) := by decide +kernel
theorem dL_law_755 : decode cL_law 755 = .ok (.invokevirtual 139, 3) := by decide +kernel
theorem dL_law_758 : decode cL_law 758 = .ok (.istore 6, 2) := by decide +kernel
theorem dL_law_760 : decode cL_law 760 = .ok (.aload_n 2, 1) := by decide +kernel
theorem dL_law_761 : decode cL_law 761 = .ok (.invokevirtual 113, 3) := by decide +kernel
theorem dL_law_764 : decode cL_law 764 = .ok (.iload 5, 2) := by decide +kernel
theorem dL_law_766 : decode cL_law 766 = .ok (.if_icmp .eq 5, 3) := by decide +kernel
theorem dL_law_769 : decode cL_law 769 = .ok (.iconst 0, 1) := by decide +kernel
theorem dL_law_770 : decode cL_law 770 = .ok (.ireturn, 1) := by decide +kernel
theorem dL_law_771 : decode cL_law 771 = .ok (.iload 5, 2) := by decide +kernel
theorem dL_law_773 : decode cL_law 773 = .ok (.ifCond .ne 15, 3) := by decide +kernel
theorem dL_law_776 : decode cL_law 776 = .ok (.aload_n 3, 1) := by decide +kernel
theorem dL_law_777 : decode cL_law 777 = .ok (.iconst 0, 1) := by decide +kernel
theorem dL_law_778 : decode cL_law 778 = .ok (.laload, 1) := by decide +kernel
theorem dL_law_779 : decode cL_law 779 = .ok (.iload 6, 2) := by decide +kernel
theorem dL_law_781 : decode cL_law 781 = .ok (.i2l, 1) := by decide +kernel
theorem dL_law_782 : decode cL_law 782 = .ok (.lcmp, 1) := by decide +kernel
theorem dL_law_783 : decode cL_law 783 = .ok (.ifCond .eq 5, 3) := by decide +kernel
theorem dL_law_786 : decode cL_law 786 = .ok (.iconst 0, 1) := by decide +kernel
theorem dL_law_787 : decode cL_law 787 = .ok (.ireturn, 1) := by decide +kernel
theorem dL_law_788 : decode cL_law 788 = .ok (.goto 1515, 3) := by decide +kernel
theorem dL_law_791 : decode cL_law 791 = .ok (.aload_n 1, 1) := by decide +kernel
theorem dL_law_792 : decode cL_law 792 = .ok (.invokevirtual 140, 3) := by decide +kernel
theorem dL_law_795 : decode cL_law 795 = .ok (.aload_n 2, 1) := by decide +kernel
theorem dL_law_796 : decode cL_law 796 = .ok (.invokevirtual 143, 3) := by decide +kernel
theorem dL_law_799 : decode cL_law 799 = .ok (.if_icmp .eq 1504, 3) := by decide +kernel
theorem dL_law_802 : decode cL_law 802 = .ok (.iconst 0, 1) := by decide +kernel
theorem dL_law_803 : decode cL_law 803 = .ok (.ireturn, 1) := by decide +kernel
theorem dL_law_804 : decode cL_law 804 = .ok (.aload_n 1, 1) := by decide +kernel
theorem dL_law_805 : decode cL_law 805 = .ok (.invokevirtual 144, 3) := by decide +kernel
theorem dL_law_808 : decode cL_law 808 = .ok (.aload_n 2, 1) := by decide +kernel
theorem dL_law_809 : decode cL_law 809 = .ok (.invokevirtual 147, 3) := by decide +kernel
theorem dL_law_812 : decode cL_law 812 = .ok (.if_icmp .eq 1491, 3) := by decide +kernel
theorem dL_law_815 : decode cL_law 815 = .ok (.iconst 0, 1) := by decide +kernel
theorem dL_law_816 : decode cL_law 816 = .ok (.ireturn, 1) := by decide +kernel
theorem dL_law_817 : decode cL_law 817 = .ok (.aload_n 1, 1) := by decide +kernel
theorem dL_law_818 : decode cL_law 818 = .ok (.aload_n 3, 1) := by decide +kernel
theorem dL_law_819 : decode cL_law 819 = .ok (.invokestatic 148, 3) := by decide +kernel
theorem dL_law_822 : decode cL_law 822 = .ok (.istore 5, 2) := by decide +kernel
theorem dL_law_824 : decode cL_law 824 = .ok (.aload_n 2, 1) := by decide +kernel
theorem dL_law_825 : decode cL_law 825 = .ok (.invokevirtual 151, 3) := by decide +kernel
theorem dL_law_828 : decode cL_law 828 = .ok (.istore 6, 2) := by decide +kernel
theorem dL_law_830 : decode cL_law 830 = .ok (.aload_n 2, 1) := by decide +kernel
theorem dL_law_831 : decode cL_law 831 = .ok (.invokevirtual 113, 3) := by decide +kernel
theorem dL_law_834 : decode cL_law 834 = .ok (.iload 5, 2) := by decide +kernel
theorem dL_law_836 : decode cL_law 836 = .ok (.if_icmp .eq 5, 3) := by decide +kernel
theorem dL_law_839 : decode cL_law 839 = .ok (.iconst 0, 1) := by decide +kernel
theorem dL_law_840 : decode cL_law 840 = .ok (.ireturn, 1) := by decide +kernel
theorem dL_law_841 : decode cL_law 841 = .ok (.iload 5, 2) := by decide +kernel
theorem dL_law_843 : decode cL_law 843 = .ok (.ifCond .ne 15, 3) := by decide +kernel
theorem dL_law_846 : decode cL_law 846 = .ok (.aload_n 3, 1) := by decide +kernel
theorem dL_law_847 : decode cL_law 847 = .ok (.iconst 0, 1) := by decide +kernel
theorem dL_law_848 : decode cL_law 848 = .ok (.laload, 1) := by decide +kernel
theorem dL_law_849 : decode cL_law 849 = .ok (.iload 6, 2) := by decide +kernel
theorem dL_law_851 : decode cL_law 851 = .ok (.i2l, 1) := by decide +kernel
theorem dL_law_852 : decode cL_law 852 = .ok (.lcmp, 1) := by decide +kernel
theorem dL_law_853 : decode cL_law 853 = .ok (.ifCond .eq 5, 3) := by decide +kernel
theorem dL_law_856 : decode cL_law 856 = .ok (.iconst 0, 1) := by decide +kernel
theorem dL_law_857 : decode cL_law 857 = .ok (.ireturn, 1) := by decide +kernel
theorem dL_law_858 : decode cL_law 858 = .ok (.goto 1445, 3) := by decide +kernel
theorem dL_law_861 : decode cL_law 861 = .ok (.aload_n 1, 1) := by decide +kernel
theorem dL_law_862 : decode cL_law 862 = .ok (.invokevirtual 152, 3) := by decide +kernel
theorem dL_law_865 : decode cL_law 865 = .ok (.aload_n 2, 1) := by decide +kernel
theorem dL_law_866 : decode cL_law 866 = .ok (.invokevirtual 155, 3) := by decide +kernel
theorem dL_law_869 : decode cL_law 869 = .ok (.if_icmp .eq 1434, 3) := by decide +kernel
theorem dL_law_872 : decode cL_law 872 = .ok (.iconst 0, 1) := by decide +kernel
theorem dL_law_873 : decode cL_law 873 = .ok (.ireturn, 1) := by decide +kernel
theorem dL_law_874 : decode cL_law 874 = .ok (.aload_n 1, 1) := by decide +kernel
theorem dL_law_875 : decode cL_law 875 = .ok (.aload_n 3, 1) := by decide +kernel
theorem dL_law_876 : decode cL_law 876 = .ok (.invokestatic 156, 3) := by decide +kernel
theorem dL_law_879 : decode cL_law 879 = .ok (.istore 5, 2) := by decide +kernel
theorem dL_law_881 : decode cL_law 881 = .ok (.aload_n 2, 1) := by decide +kernel
theorem dL_law_882 : decode cL_law 882 = .ok (.invokevirtual 158, 3) := by decide +kernel
theorem dL_law_885 : decode cL_law 885 = .ok (.istore 6, 2) := by decide +kernel
theorem dL_law_887 : decode cL_law 887 = .ok (.aload_n 2, 1) := by decide +kernel
theorem dL_law_888 : decode cL_law 888 = .ok (.invokevirtual 113, 3) := by decide +kernel
theorem dL_law_891 : decode cL_law 891 = .ok (.iload 5, 2) := by decide +kernel
theorem dL_law_893 : decode cL_law 893 = .ok (.if_icmp .eq 5, 3) := by decide +kernel
theorem dL_law_896 : decode cL_law 896 = .ok (.iconst 0, 1) := by decide +kernel
theorem dL_law_897 : decode cL_law 897 = .ok (.ireturn, 1) := by decide +kernel
theorem dL_law_898 : decode cL_law 898 = .ok (.iload 5, 2) := by decide +kernel
theorem dL_law_900 : decode cL_law 900 = .ok (.ifCond .ne 15, 3) := by decide +kernel
theorem dL_law_903 : decode cL_law 903 = .ok (.aload_n 3, 1) := by decide +kernel
theorem dL_law_904 : decode cL_law 904 = .ok (.iconst 0, 1) := by decide +kernel
theorem dL_law_905 : decode cL_law 905 = .ok (.laload, 1) := by decide +kernel
theorem dL_law_906 : decode cL_law 906 = .ok (.iload 6, 2) := by decide +kernel
theorem dL_law_908 : decode cL_law 908 = .ok (.i2l, 1) := by decide +kernel
theorem dL_law_909 : decode cL_law 909 = .ok (.lcmp, 1) := by decide +kernel
theorem dL_law_910 : decode cL_law 910 = .ok (.ifCond .eq 5, 3) := by decide +kernel
theorem dL_law_913 : decode cL_law 913 = .ok (.iconst 0, 1) := by decide +kernel
theorem dL_law_914 : decode cL_law 914 = .ok (.ireturn, 1) := by decide +kernel
theorem dL_law_915 : decode cL_law 915 = .ok (.goto 1388, 3) := by decide +kernel
theorem dL_law_918 : decode cL_law 918 = .ok (.aload_n 1, 1) := by decide +kernel
theorem dL_law_919 : decode cL_law 919 = .ok (.aload_n 3, 1) := by decide +kernel
theorem dL_law_920 : decode cL_law 920 = .ok (.invokestatic 159, 3) := by decide +kernel
theorem dL_law_923 : decode cL_law 923 = .ok (.istore 5, 2) := by decide +kernel
theorem dL_law_925 : decode cL_law 925 = .ok (.aload_n 2, 1) := by decide +kernel
theorem dL_law_926 : decode cL_law 926 = .ok (.invokevirtual 161, 3) := by decide +kernel
theorem dL_law_929 : decode cL_law 929 = .ok (.istore 6, 2) := by decide +kernel
theorem dL_law_931 : decode cL_law 931 = .ok (.aload_n 2, 1) := by decide +kernel
theorem dL_law_932 : decode cL_law 932 = .ok (.invokevirtual 113, 3) := by decide +kernel
theorem dL_law_935 : decode cL_law 935 = .ok (.iload 5, 2) := by decide +kernel
theorem dL_law_937 : decode cL_law 937 = .ok (.if_icmp .eq 5, 3) := by decide +kernel
theorem dL_law_940 : decode cL_law 940 = .ok (.iconst 0, 1) := by decide +kernel
theorem dL_law_941 : decode cL_law 941 = .ok (.ireturn, 1) := by decide +kernel
theorem dL_law_942 : decode cL_law 942 = .ok (.iload 5, 2) := by decide +kernel
theorem dL_law_944 : decode cL_law 944 = .ok (.ifCond .ne 15, 3) := by decide +kernel
theorem dL_law_947 : decode cL_law 947 = .ok (.aload_n 3, 1) := by decide +kernel
theorem dL_law_948 : decode cL_law 948 = .ok (.iconst 0, 1) := by decide +kernel
theorem dL_law_949 : decode cL_law 949 = .ok (.laload, 1) := by decide +kernel
theorem dL_law_950 : decode cL_law 950 = .ok (.iload 6, 2) := by decide +kernel
theorem dL_law_952 : decode cL_law 952 = .ok (.i2l, 1) := by decide +kernel
theorem dL_law_953 : decode cL_law 953 = .ok (.lcmp, 1) := by decide +kernel
theorem dL_law_954 : decode cL_law 954 = .ok (.ifCond .eq 5, 3) := by decide +kernel
theorem dL_law_957 : decode cL_law 957 = .ok (.iconst 0, 1) := by decide +kernel
theorem dL_law_958 : decode cL_law 958 = .ok (.ireturn, 1) := by decide +kernel
theorem dL_law_959 : decode cL_law 959 = .ok (.goto 1344, 3) := by decide +kernel
theorem dL_law_962 : decode cL_law 962 = .ok (.aload_n 1, 1) := by decide +kernel
theorem dL_law_963 : decode cL_law 963 = .ok (.invokevirtual 162, 3) := by decide +kernel
theorem dL_law_966 : decode cL_law 966 = .ok (.aload_n 2, 1) := by decide +kernel
theorem dL_law_967 : decode cL_law 967 = .ok (.invokevirtual 165, 3) := by decide +kernel
theorem dL_law_970 : decode cL_law 970 = .ok (.if_icmp .eq 1333, 3) := by decide +kernel
theorem dL_law_973 : decode cL_law 973 = .ok (.iconst 0, 1) := by decide +kernel
theorem dL_law_974 : decode cL_law 974 = .ok (.ireturn, 1) := by decide +kernel
theorem dL_law_975 : decode cL_law 975 = .ok (.aload_n 1, 1) := by decide +kernel
theorem dL_law_976 : decode cL_law 976 = .ok (.aload_n 0, 1) := by decide +kernel
theorem dL_law_977 : decode cL_law 977 = .ok (.iload 4, 2) := by decide +kernel
theorem dL_law_979 : decode cL_law 979 = .ok (.iconst 1, 1) := by decide +kernel
theorem dL_law_980 : decode cL_law 980 = .ok (.iadd, 1) := by decide +kernel
theorem dL_law_981 : decode cL_law 981 = .ok (.iaload, 1) := by decide +kernel
theorem dL_law_982 : decode cL_law 982 = .ok (.aload_n 3, 1) := by decide +kernel
theorem dL_law_983 : decode cL_law 983 = .ok (.invokestatic 166, 3) := by decide +kernel
theorem dL_law_986 : decode cL_law 986 = .ok (.istore 5, 2) := by decide +kernel
theorem dL_law_988 : decode cL_law 988 = .ok (.aload_n 2, 1) := by decide +kernel
theorem dL_law_989 : decode cL_law 989 = .ok (.aload_n 0, 1) := by decide +kernel
theorem dL_law_990 : decode cL_law 990 = .ok (.iload 4, 2) := by decide +kernel
theorem dL_law_992 : decode cL_law 992 = .ok (.iconst 1, 1) := by decide +kernel
theorem dL_law_993 : decode cL_law 993 = .ok (.iadd, 1) := by decide +kernel
theorem dL_law_994 : decode cL_law 994 = .ok (.iaload, 1) := by decide +kernel
theorem dL_law_995 : decode cL_law 995 = .ok (.invokevirtual 168, 3) := by decide +kernel
theorem dL_law_998 : decode cL_law 998 = .ok (.istore 6, 2) := by decide +kernel
theorem dL_law_1000 : decode cL_law 1000 = .ok (.aload_n 2, 1) := by decide +kernel
theorem dL_law_1001 : decode cL_law 1001 = .ok (.invokevirtual 113, 3) := by decide +kernel
theorem dL_law_1004 : decode cL_law 1004 = .ok (.iload 5, 2) := by decide +kernel
theorem dL_law_1006 : decode cL_law 1006 = .ok (.if_icmp .eq 5, 3) := by decide +kernel
theorem dL_law_1009 : decode cL_law 1009 = .ok (.iconst 0, 1) := by decide +kernel
theorem dL_law_1010 : decode cL_law 1010 = .ok (.ireturn, 1) := by decide +kernel
theorem dL_law_1011 : decode cL_law 1011 = .ok (.iload 5, 2) := by decide +kernel
theorem dL_law_1013 : decode cL_law 1013 = .ok (.ifCond .ne 15, 3) := by decide +kernel
theorem dL_law_1016 : decode cL_law 1016 = .ok (.aload_n 3, 1) := by decide +kernel
theorem dL_law_1017 : decode cL_law 1017 = .ok (.iconst 0, 1) := by decide +kernel
theorem dL_law_1018 : decode cL_law 1018 = .ok (.laload, 1) := by decide +kernel
theorem dL_law_1019 : decode cL_law 1019 = .ok (.iload 6, 2) := by decide +kernel
theorem dL_law_1021 : decode cL_law 1021 = .ok (.i2l, 1) := by decide +kernel
theorem dL_law_1022 : decode cL_law 1022 = .ok (.lcmp, 1) := by decide +kernel
theorem dL_law_1023 : decode cL_law 1023 = .ok (.ifCond .eq 5, 3) := by decide +kernel
theorem dL_law_1026 : decode cL_law 1026 = .ok (.iconst 0, 1) := by decide +kernel
theorem dL_law_1027 : decode cL_law 1027 = .ok (.ireturn, 1) := by decide +kernel
theorem dL_law_1028 : decode cL_law 1028 = .ok (.goto 1275, 3) := by decide +kernel
theorem dL_law_1031 : decode cL_law 1031 = .ok (.aload_n 1, 1) := by decide +kernel
theorem dL_law_1032 : decode cL_law 1032 = .ok (.aload_n 0, 1) := by decide +kernel
theorem dL_law_1033 : decode cL_law 1033 = .ok (.iload 4, 2) := by decide +kernel
theorem dL_law_1035 : decode cL_law 1035 = .ok (.iconst 1, 1) := by decide +kernel
theorem dL_law_1036 : decode cL_law 1036 = .ok (.iadd, 1) := by decide +kernel
theorem dL_law_1037 : decode cL_law 1037 = .ok (.iaload, 1) := by decide +kernel
theorem dL_law_1038 : decode cL_law 1038 = .ok (.aload_n 3, 1) := by decide +kernel
theorem dL_law_1039 : decode cL_law 1039 = .ok (.invokestatic 169, 3) := by decide +kernel
theorem dL_law_1042 : decode cL_law 1042 = .ok (.istore 5, 2) := by decide +kernel
theorem dL_law_1044 : decode cL_law 1044 = .ok (.aload_n 2, 1) := by decide +kernel
theorem dL_law_1045 : decode cL_law 1045 = .ok (.aload_n 0, 1) := by decide +kernel
theorem dL_law_1046 : decode cL_law 1046 = .ok (.iload 4, 2) := by decide +kernel
theorem dL_law_1048 : decode cL_law 1048 = .ok (.iconst 1, 1) := by decide +kernel
theorem dL_law_1049 : decode cL_law 1049 = .ok (.iadd, 1) := by decide +kernel
theorem dL_law_1050 : decode cL_law 1050 = .ok (.iaload, 1) := by decide +kernel
theorem dL_law_1051 : decode cL_law 1051 = .ok (.invokevirtual 171, 3) := by decide +kernel
theorem dL_law_1054 : decode cL_law 1054 = .ok (.istore 6, 2) := by decide +kernel
theorem dL_law_1056 : decode cL_law 1056 = .ok (.aload_n 2, 1) := by decide +kernel
theorem dL_law_1057 : decode cL_law 1057 = .ok (.invokevirtual 113, 3) := by decide +kernel
theorem dL_law_1060 : decode cL_law 1060 = .ok (.iload 5, 2) := by decide +kernel
theorem dL_law_1062 : decode cL_law 1062 = .ok (.if_icmp .eq 5, 3) := by decide +kernel
theorem dL_law_1065 : decode cL_law 1065 = .ok (.iconst 0, 1) := by decide +kernel
theorem dL_law_1066 : decode cL_law 1066 = .ok (.ireturn, 1) := by decide +kernel
theorem dL_law_1067 : decode cL_law 1067 = .ok (.iload 5, 2) := by decide +kernel
theorem dL_law_1069 : decode cL_law 1069 = .ok (.ifCond .ne 15, 3) := by decide +kernel
theorem dL_law_1072 : decode cL_law 1072 = .ok (.aload_n 3, 1) := by decide +kernel
theorem dL_law_1073 : decode cL_law 1073 = .ok (.iconst 0, 1) := by decide +kernel
theorem dL_law_1074 : decode cL_law 1074 = .ok (.laload, 1) := by decide +kernel
theorem dL_law_1075 : decode cL_law 1075 = .ok (.iload 6, 2) := by decide +kernel
theorem dL_law_1077 : decode cL_law 1077 = .ok (.i2l, 1) := by decide +kernel
theorem dL_law_1078 : decode cL_law 1078 = .ok (.lcmp, 1) := by decide +kernel
theorem dL_law_1079 : decode cL_law 1079 = .ok (.ifCond .eq 5, 3) := by decide +kernel
theorem dL_law_1082 : decode cL_law 1082 = .ok (.iconst 0, 1) := by decide +kernel
theorem dL_law_1083 : decode cL_law 1083 = .ok (.ireturn, 1) := by decide +kernel
theorem dL_law_1084 : decode cL_law 1084 = .ok (.goto 1219, 3) := by decide +kernel
theorem dL_law_1087 : decode cL_law 1087 = .ok (.aload_n 1, 1) := by decide +kernel
theorem dL_law_1088 : decode cL_law 1088 = .ok (.aload_n 0, 1) := by decide +kernel
theorem dL_law_1089 : decode cL_law 1089 = .ok (.iload 4, 2) := by decide +kernel
theorem dL_law_1091 : decode cL_law 1091 = .ok (.iconst 1, 1) := by decide +kernel
theorem dL_law_1092 : decode cL_law 1092 = .ok (.iadd, 1) := by decide +kernel
theorem dL_law_1093 : decode cL_law 1093 = .ok (.iaload, 1) := by decide +kernel
theorem dL_law_1094 : decode cL_law 1094 = .ok (.aload_n 3, 1) := by decide +kernel
theorem dL_law_1095 : decode cL_law 1095 = .ok (.invokestatic 172, 3) := by decide +kernel
theorem dL_law_1098 : decode cL_law 1098 = .ok (.istore 5, 2) := by decide +kernel
theorem dL_law_1100 : decode cL_law 1100 = .ok (.aload_n 2, 1) := by decide +kernel
theorem dL_law_1101 : decode cL_law 1101 = .ok (.aload_n 0, 1) := by decide +kernel
theorem dL_law_1102 : decode cL_law 1102 = .ok (.iload 4, 2) := by decide +kernel
theorem dL_law_1104 : decode cL_law 1104 = .ok (.iconst 1, 1) := by decide +kernel
theorem dL_law_1105 : decode cL_law 1105 = .ok (.iadd, 1) := by decide +kernel
theorem dL_law_1106 : decode cL_law 1106 = .ok (.iaload, 1) := by decide +kernel
theorem dL_law_1107 : decode cL_law 1107 = .ok (.invokevirtual 174, 3) := by decide +kernel
theorem dL_law_1110 : decode cL_law 1110 = .ok (.istore 6, 2) := by decide +kernel
theorem dL_law_1112 : decode cL_law 1112 = .ok (.aload_n 2, 1) := by decide +kernel
theorem dL_law_1113 : decode cL_law 1113 = .ok (.invokevirtual 113, 3) := by decide +kernel
theorem dL_law_1116 : decode cL_law 1116 = .ok (.iload 5, 2) := by decide +kernel
theorem dL_law_1118 : decode cL_law 1118 = .ok (.if_icmp .eq 5, 3) := by decide +kernel
theorem dL_law_1121 : decode cL_law 1121 = .ok (.iconst 0, 1) := by decide +kernel
theorem dL_law_1122 : decode cL_law 1122 = .ok (.ireturn, 1) := by decide +kernel
theorem dL_law_1123 : decode cL_law 1123 = .ok (.iload 5, 2) := by decide +kernel
theorem dL_law_1125 : decode cL_law 1125 = .ok (.ifCond .ne 15, 3) := by decide +kernel
theorem dL_law_1128 : decode cL_law 1128 = .ok (.aload_n 3, 1) := by decide +kernel
theorem dL_law_1129 : decode cL_law 1129 = .ok (.iconst 0, 1) := by decide +kernel
theorem dL_law_1130 : decode cL_law 1130 = .ok (.laload, 1) := by decide +kernel
theorem dL_law_1131 : decode cL_law 1131 = .ok (.iload 6, 2) := by decide +kernel
theorem dL_law_1133 : decode cL_law 1133 = .ok (.i2l, 1) := by decide +kernel
theorem dL_law_1134 : decode cL_law 1134 = .ok (.lcmp, 1) := by decide +kernel
theorem dL_law_1135 : decode cL_law 1135 = .ok (.ifCond .eq 5, 3) := by decide +kernel
theorem dL_law_1138 : decode cL_law 1138 = .ok (.iconst 0, 1) := by decide +kernel
theorem dL_law_1139 : decode cL_law 1139 = .ok (.ireturn, 1) := by decide +kernel
theorem dL_law_1140 : decode cL_law 1140 = .ok (.goto 1163, 3) := by decide +kernel
theorem dL_law_1143 : decode cL_law 1143 = .ok (.aload_n 1, 1) := by decide +kernel
theorem dL_law_1144 : decode cL_law 1144 = .ok (.aload_n 0, 1) := by decide +kernel
theorem dL_law_1145 : decode cL_law 1145 = .ok (.iload 4, 2) := by decide +kernel
theorem dL_law_1147 : decode cL_law 1147 = .ok (.iconst 1, 1) := by decide +kernel
theorem dL_law_1148 : decode cL_law 1148 = .ok (.iadd, 1) := by decide +kernel
theorem dL_law_1149 : decode cL_law 1149 = .ok (.iaload, 1) := by decide +kernel
theorem dL_law_1150 : decode cL_law 1150 = .ok (.aload_n 3, 1) := by decide +kernel
theorem dL_law_1151 : decode cL_law 1151 = .ok (.invokestatic 175, 3) := by decide +kernel
theorem dL_law_1154 : decode cL_law 1154 = .ok (.istore 5, 2) := by decide +kernel
theorem dL_law_1156 : decode cL_law 1156 = .ok (.aload_n 2, 1) := by decide +kernel
theorem dL_law_1157 : decode cL_law 1157 = .ok (.aload_n 0, 1) := by decide +kernel
theorem dL_law_1158 : decode cL_law 1158 = .ok (.iload 4, 2) := by decide +kernel
theorem dL_law_1160 : decode cL_law 1160 = .ok (.iconst 1, 1) := by decide +kernel
theorem dL_law_1161 : decode cL_law 1161 = .ok (.iadd, 1) := by decide +kernel
theorem dL_law_1162 : decode cL_law 1162 = .ok (.iaload, 1) := by decide +kernel
theorem dL_law_1163 : decode cL_law 1163 = .ok (.invokevirtual 177, 3) := by decide +kernel
theorem dL_law_1166 : decode cL_law 1166 = .ok (.istore 6, 2) := by decide +kernel
theorem dL_law_1168 : decode cL_law 1168 = .ok (.aload_n 2, 1) := by decide +kernel
theorem dL_law_1169 : decode cL_law 1169 = .ok (.invokevirtual 113, 3) := by decide +kernel
theorem dL_law_1172 : decode cL_law 1172 = .ok (.iload 5, 2) := by decide +kernel
theorem dL_law_1174 : decode cL_law 1174 = .ok (.if_icmp .eq 5, 3) := by decide +kernel
theorem dL_law_1177 : decode cL_law 1177 = .ok (.iconst 0, 1) := by decide +kernel
theorem dL_law_1178 : decode cL_law 1178 = .ok (.ireturn, 1) := by decide +kernel
theorem dL_law_1179 : decode cL_law 1179 = .ok (.iload 5, 2) := by decide +kernel
theorem dL_law_1181 : decode cL_law 1181 = .ok (.ifCond .ne 22, 3) := by decide +kernel
theorem dL_law_1184 : decode cL_law 1184 = .ok (.aload_n 3, 1) := by decide +kernel
theorem dL_law_1185 : decode cL_law 1185 = .ok (.iconst 0, 1) := by decide +kernel
theorem dL_law_1186 : decode cL_law 1186 = .ok (.laload, 1) := by decide +kernel
theorem dL_law_1187 : decode cL_law 1187 = .ok (.iload 6, 2) := by decide +kernel
theorem dL_law_1189 : decode cL_law 1189 = .ok (.ifCond .eq 7, 3) := by decide +kernel
theorem dL_law_1192 : decode cL_law 1192 = .ok (.lconst 1, 1) := by decide +kernel
theorem dL_law_1193 : decode cL_law 1193 = .ok (.goto 4, 3) := by decide +kernel
theorem dL_law_1196 : decode cL_law 1196 = .ok (.lconst 0, 1) := by decide +kernel
theorem dL_law_1197 : decode cL_law 1197 = .ok (.lcmp, 1) := by decide +kernel
theorem dL_law_1198 : decode cL_law 1198 = .ok (.ifCond .eq 5, 3) := by decide +kernel
theorem dL_law_1201 : decode cL_law 1201 = .ok (.iconst 0, 1) := by decide +kernel
theorem dL_law_1202 : decode cL_law 1202 = .ok (.ireturn, 1) := by decide +kernel
theorem dL_law_1203 : decode cL_law 1203 = .ok (.goto 1100, 3) := by decide +kernel
theorem dL_law_1206 : decode cL_law 1206 = .ok (.aload_n 1, 1) := by decide +kernel
theorem dL_law_1207 : decode cL_law 1207 = .ok (.aload_n 0, 1) := by decide +kernel
theorem dL_law_1208 : decode cL_law 1208 = .ok (.iload 4, 2) := by decide +kernel
theorem dL_law_1210 : decode cL_law 1210 = .ok (.iconst 1, 1) := by decide +kernel
theorem dL_law_1211 : decode cL_law 1211 = .ok (.iadd, 1) := by decide +kernel
theorem dL_law_1212 : decode cL_law 1212 = .ok (.iaload, 1) := by decide +kernel
theorem dL_law_1213 : decode cL_law 1213 = .ok (.aload_n 3, 1) := by decide +kernel
theorem dL_law_1214 : decode cL_law 1214 = .ok (.invokestatic 178, 3) := by decide +kernel
theorem dL_law_1217 : decode cL_law 1217 = .ok (.istore 5, 2) := by decide +kernel
theorem dL_law_1219 : decode cL_law 1219 = .ok (.aload_n 2, 1) := by decide +kernel
theorem dL_law_1220 : decode cL_law 1220 = .ok (.aload_n 0, 1) := by decide +kernel
theorem dL_law_1221 : decode cL_law 1221 = .ok (.iload 4, 2) := by decide +kernel
theorem dL_law_1223 : decode cL_law 1223 = .ok (.iconst 1, 1) := by decide +kernel
theorem dL_law_1224 : decode cL_law 1224 = .ok (.iadd, 1) := by decide +kernel
theorem dL_law_1225 : decode cL_law 1225 = .ok (.iaload, 1) := by decide +kernel
theorem dL_law_1226 : decode cL_law 1226 = .ok (.invokevirtual 180, 3) := by decide +kernel
theorem dL_law_1229 : decode cL_law 1229 = .ok (.istore 6, 2) := by decide +kernel
theorem dL_law_1231 : decode cL_law 1231 = .ok (.aload_n 2, 1) := by decide +kernel
theorem dL_law_1232 : decode cL_law 1232 = .ok (.invokevirtual 113, 3) := by decide +kernel
theorem dL_law_1235 : decode cL_law 1235 = .ok (.iload 5, 2) := by decide +kernel
theorem dL_law_1237 : decode cL_law 1237 = .ok (.if_icmp .eq 5, 3) := by decide +kernel
theorem dL_law_1240 : decode cL_law 1240 = .ok (.iconst 0, 1) := by decide +kernel
theorem dL_law_1241 : decode cL_law 1241 = .ok (.ireturn, 1) := by decide +kernel
theorem dL_law_1242 : decode cL_law 1242 = .ok (.iload 5, 2) := by decide +kernel
theorem dL_law_1244 : decode cL_law 1244 = .ok (.ifCond .ne 15, 3) := by decide +kernel
theorem dL_law_1247 : decode cL_law 1247 = .ok (.aload_n 3, 1) := by decide +kernel
theorem dL_law_1248 : decode cL_law 1248 = .ok (.iconst 0, 1) := by decide +kernel
theorem dL_law_1249 : decode cL_law 1249 = .ok (.laload, 1) := by decide +kernel
theorem dL_law_1250 : decode cL_law 1250 = .ok (.iload 6, 2) := by decide +kernel
theorem dL_law_1252 : decode cL_law 1252 = .ok (.i2l, 1) := by decide +kernel
theorem dL_law_1253 : decode cL_law 1253 = .ok (.lcmp, 1) := by decide +kernel
theorem dL_law_1254 : decode cL_law 1254 = .ok (.ifCond .eq 5, 3) := by decide +kernel
theorem dL_law_1257 : decode cL_law 1257 = .ok (.iconst 0, 1) := by decide +kernel
theorem dL_law_1258 : decode cL_law 1258 = .ok (.ireturn, 1) := by decide +kernel
theorem dL_law_1259 : decode cL_law 1259 = .ok (.goto 1044, 3) := by decide +kernel
theorem dL_law_1262 : decode cL_law 1262 = .ok (.aload_n 1, 1) := by decide +kernel
theorem dL_law_1263 : decode cL_law 1263 = .ok (.aload_n 0, 1) := by decide +kernel
theorem dL_law_1264 : decode cL_law 1264 = .ok (.iload 4, 2) := by decide +kernel
theorem dL_law_1266 : decode cL_law 1266 = .ok (.iconst 1, 1) := by decide +kernel
theorem dL_law_1267 : decode cL_law 1267 = .ok (.iadd, 1) := by decide +kernel
theorem dL_law_1268 : decode cL_law 1268 = .ok (.iaload, 1) := by decide +kernel
theorem dL_law_1269 : decode cL_law 1269 = .ok (.aload_n 0, 1) := by decide +kernel
theorem dL_law_1270 : decode cL_law 1270 = .ok (.iload 4, 2) := by decide +kernel
theorem dL_law_1272 : decode cL_law 1272 = .ok (.iconst 2, 1) := by decide +kernel
theorem dL_law_1273 : decode cL_law 1273 = .ok (.iadd, 1) := by decide +kernel
theorem dL_law_1274 : decode cL_law 1274 = .ok (.iaload, 1) := by decide +kernel
theorem dL_law_1275 : decode cL_law 1275 = .ok (.aload_n 3, 1) := by decide +kernel
theorem dL_law_1276 : decode cL_law 1276 = .ok (.invokestatic 181, 3) := by decide +kernel
theorem dL_law_1279 : decode cL_law 1279 = .ok (.istore 5, 2) := by decide +kernel
theorem dL_law_1281 : decode cL_law 1281 = .ok (.aload_n 2, 1) := by decide +kernel
theorem dL_law_1282 : decode cL_law 1282 = .ok (.aload_n 0, 1) := by decide +kernel
theorem dL_law_1283 : decode cL_law 1283 = .ok (.iload 4, 2) := by decide +kernel
theorem dL_law_1285 : decode cL_law 1285 = .ok (.iconst 1, 1) := by decide +kernel
theorem dL_law_1286 : decode cL_law 1286 = .ok (.iadd, 1) := by decide +kernel
theorem dL_law_1287 : decode cL_law 1287 = .ok (.iaload, 1) := by decide +kernel
theorem dL_law_1288 : decode cL_law 1288 = .ok (.aload_n 0, 1) := by decide +kernel
theorem dL_law_1289 : decode cL_law 1289 = .ok (.iload 4, 2) := by decide +kernel
theorem dL_law_1291 : decode cL_law 1291 = .ok (.iconst 2, 1) := by decide +kernel
theorem dL_law_1292 : decode cL_law 1292 = .ok (.iadd, 1) := by decide +kernel
theorem dL_law_1293 : decode cL_law 1293 = .ok (.iaload, 1) := by decide +kernel
theorem dL_law_1294 : decode cL_law 1294 = .ok (.invokevirtual 183, 3) := by decide +kernel
theorem dL_law_1297 : decode cL_law 1297 = .ok (.istore 6, 2) := by decide +kernel
theorem dL_law_1299 : decode cL_law 1299 = .ok (.aload_n 2, 1) := by decide +kernel
theorem dL_law_1300 : decode cL_law 1300 = .ok (.invokevirtual 113, 3) := by decide +kernel
theorem dL_law_1303 : decode cL_law 1303 = .ok (.iload 5, 2) := by decide +kernel
theorem dL_law_1305 : decode cL_law 1305 = .ok (.if_icmp .eq 5, 3) := by decide +kernel
theorem dL_law_1308 : decode cL_law 1308 = .ok (.iconst 0, 1) := by decide +kernel
theorem dL_law_1309 : decode cL_law 1309 = .ok (.ireturn, 1) := by decide +kernel
theorem dL_law_1310 : decode cL_law 1310 = .ok (.iload 5, 2) := by decide +kernel
theorem dL_law_1312 : decode cL_law 1312 = .ok (.ifCond .ne 22, 3) := by decide +kernel
theorem dL_law_1315 : decode cL_law 1315 = .ok (.aload_n 3, 1) := by decide +kernel
theorem dL_law_1316 : decode cL_law 1316 = .ok (.iconst 0, 1) := by decide +kernel
theorem dL_law_1317 : decode cL_law 1317 = .ok (.laload, 1) := by decide +kernel
theorem dL_law_1318 : decode cL_law 1318 = .ok (.iload 6, 2) := by decide +kernel
theorem dL_law_1320 : decode cL_law 1320 = .ok (.ifCond .eq 7, 3) := by decide +kernel
theorem dL_law_1323 : decode cL_law 1323 = .ok (.lconst 1, 1) := by decide +kernel
theorem dL_law_1324 : decode cL_law 1324 = .ok (.goto 4, 3) := by decide +kernel
theorem dL_law_1327 : decode cL_law 1327 = .ok (.lconst 0, 1) := by decide +kernel
theorem dL_law_1328 : decode cL_law 1328 = .ok (.lcmp, 1) := by decide +kernel
theorem dL_law_1329 : decode cL_law 1329 = .ok (.ifCond .eq 5, 3) := by decide +kernel
theorem dL_law_1332 : decode cL_law 1332 = .ok (.iconst 0, 1) := by decide +kernel
theorem dL_law_1333 : decode cL_law 1333 = .ok (.ireturn, 1) := by decide +kernel
theorem dL_law_1334 : decode cL_law 1334 = .ok (.goto 969, 3) := by decide +kernel
theorem dL_law_1337 : decode cL_law 1337 = .ok (.aload_n 1, 1) := by decide +kernel
theorem dL_law_1338 : decode cL_law 1338 = .ok (.invokevirtual 184, 3) := by decide +kernel
theorem dL_law_1341 : decode cL_law 1341 = .ok (.aload_n 2, 1) := by decide +kernel
theorem dL_law_1342 : decode cL_law 1342 = .ok (.invokevirtual 187, 3) := by decide +kernel
theorem dL_law_1345 : decode cL_law 1345 = .ok (.if_icmp .eq 958, 3) := by decide +kernel
theorem dL_law_1348 : decode cL_law 1348 = .ok (.iconst 0, 1) := by decide +kernel
theorem dL_law_1349 : decode cL_law 1349 = .ok (.ireturn, 1) := by decide +kernel
theorem dL_law_1350 : decode cL_law 1350 = .ok (.aload_n 1, 1) := by decide +kernel
theorem dL_law_1351 : decode cL_law 1351 = .ok (.invokevirtual 188, 3) := by decide +kernel
theorem dL_law_1354 : decode cL_law 1354 = .ok (.aload_n 2, 1) := by decide +kernel
theorem dL_law_1355 : decode cL_law 1355 = .ok (.invokevirtual 191, 3) := by decide +kernel
theorem dL_law_1358 : decode cL_law 1358 = .ok (.if_icmp .eq 945, 3) := by decide +kernel
theorem dL_law_1361 : decode cL_law 1361 = .ok (.iconst 0, 1) := by decide +kernel
theorem dL_law_1362 : decode cL_law 1362 = .ok (.ireturn, 1) := by decide +kernel
theorem dL_law_1363 : decode cL_law 1363 = .ok (.aload_n 1, 1) := by decide +kernel
theorem dL_law_1364 : decode cL_law 1364 = .ok (.invokevirtual 192, 3) := by decide +kernel
theorem dL_law_1367 : decode cL_law 1367 = .ok (.aload_n 2, 1) := by decide +kernel
theorem dL_law_1368 : decode cL_law 1368 = .ok (.invokevirtual 195, 3) := by decide +kernel
theorem dL_law_1371 : decode cL_law 1371 = .ok (.if_icmp .eq 932, 3) := by decide +kernel
theorem dL_law_1374 : decode cL_law 1374 = .ok (.iconst 0, 1) := by decide +kernel
theorem dL_law_1375 : decode cL_law 1375 = .ok (.ireturn, 1) := by decide +kernel
theorem dL_law_1376 : decode cL_law 1376 = .ok (.aload_n 1, 1) := by decide +kernel
theorem dL_law_1377 : decode cL_law 1377 = .ok (.invokevirtual 196, 3) := by decide +kernel
theorem dL_law_1380 : decode cL_law 1380 = .ok (.aload_n 2, 1) := by decide +kernel
theorem dL_law_1381 : decode cL_law 1381 = .ok (.invokevirtual 199, 3) := by decide +kernel
theorem dL_law_1384 : decode cL_law 1384 = .ok (.if_icmp .eq 919, 3) := by decide +kernel
theorem dL_law_1387 : decode cL_law 1387 = .ok (.iconst 0, 1) := by decide +kernel
theorem dL_law_1388 : decode cL_law 1388 = .ok (.ireturn, 1) := by decide +kernel
theorem dL_law_1389 : decode cL_law 1389 = .ok (.aload_n 1, 1) := by decide +kernel
theorem dL_law_1390 : decode cL_law 1390 = .ok (.aload_n 0, 1) := by decide +kernel
theorem dL_law_1391 : decode cL_law 1391 = .ok (.iload 4, 2) := by decide +kernel
theorem dL_law_1393 : decode cL_law 1393 = .ok (.iconst 1, 1) := by decide +kernel
theorem dL_law_1394 : decode cL_law 1394 = .ok (.iadd, 1) := by decide +kernel
theorem dL_law_1395 : decode cL_law 1395 = .ok (.iaload, 1) := by decide +kernel
theorem dL_law_1396 : decode cL_law 1396 = .ok (.aload_n 3, 1) := by decide +kernel
theorem dL_law_1397 : decode cL_law 1397 = .ok (.invokestatic 200, 3) := by decide +kernel
theorem dL_law_1400 : decode cL_law 1400 = .ok (.istore 5, 2) := by decide +kernel
theorem dL_law_1402 : decode cL_law 1402 = .ok (.aload_n 2, 1) := by decide +kernel
theorem dL_law_1403 : decode cL_law 1403 = .ok (.aload_n 0, 1) := by decide +kernel
theorem dL_law_1404 : decode cL_law 1404 = .ok (.iload 4, 2) := by decide +kernel
theorem dL_law_1406 : decode cL_law 1406 = .ok (.iconst 1, 1) := by decide +kernel
theorem dL_law_1407 : decode cL_law 1407 = .ok (.iadd, 1) := by decide +kernel
theorem dL_law_1408 : decode cL_law 1408 = .ok (.iaload, 1) := by decide +kernel
theorem dL_law_1409 : decode cL_law 1409 = .ok (.invokevirtual 202, 3) := by decide +kernel
theorem dL_law_1412 : decode cL_law 1412 = .ok (.istore 6, 2) := by decide +kernel
theorem dL_law_1414 : decode cL_law 1414 = .ok (.aload_n 2, 1) := by decide +kernel
theorem dL_law_1415 : decode cL_law 1415 = .ok (.invokevirtual 113, 3) := by decide +kernel
theorem dL_law_1418 : decode cL_law 1418 = .ok (.iload 5, 2) := by decide +kernel
theorem dL_law_1420 : decode cL_law 1420 = .ok (.if_icmp .eq 5, 3) := by decide +kernel
theorem dL_law_1423 : decode cL_law 1423 = .ok (.iconst 0, 1) := by decide +kernel
theorem dL_law_1424 : decode cL_law 1424 = .ok (.ireturn, 1) := by decide +kernel
theorem dL_law_1425 : decode cL_law 1425 = .ok (.iload 5, 2) := by decide +kernel
theorem dL_law_1427 : decode cL_law 1427 = .ok (.ifCond .ne 15, 3) := by decide +kernel
theorem dL_law_1430 : decode cL_law 1430 = .ok (.aload_n 3, 1) := by decide +kernel
theorem dL_law_1431 : decode cL_law 1431 = .ok (.iconst 0, 1) := by decide +kernel
theorem dL_law_1432 : decode cL_law 1432 = .ok (.laload, 1) := by decide +kernel
theorem dL_law_1433 : decode cL_law 1433 = .ok (.iload 6, 2) := by decide +kernel
theorem dL_law_1435 : decode cL_law 1435 = .ok (.i2l, 1) := by decide +kernel
theorem dL_law_1436 : decode cL_law 1436 = .ok (.lcmp, 1) := by decide +kernel
theorem dL_law_1437 : decode cL_law 1437 = .ok (.ifCond .eq 5, 3) := by decide +kernel
theorem dL_law_1440 : decode cL_law 1440 = .ok (.iconst 0, 1) := by decide +kernel
theorem dL_law_1441 : decode cL_law 1441 = .ok (.ireturn, 1) := by decide +kernel
theorem dL_law_1442 : decode cL_law 1442 = .ok (.goto 861, 3) := by decide +kernel
theorem dL_law_1445 : decode cL_law 1445 = .ok (.aload_n 1, 1) := by decide +kernel
theorem dL_law_1446 : decode cL_law 1446 = .ok (.aload_n 0, 1) := by decide +kernel
theorem dL_law_1447 : decode cL_law 1447 = .ok (.iload 4, 2) := by decide +kernel
theorem dL_law_1449 : decode cL_law 1449 = .ok (.iconst 1, 1) := by decide +kernel
theorem dL_law_1450 : decode cL_law 1450 = .ok (.iadd, 1) := by decide +kernel
theorem dL_law_1451 : decode cL_law 1451 = .ok (.iaload, 1) := by decide +kernel
theorem dL_law_1452 : decode cL_law 1452 = .ok (.aload_n 3, 1) := by decide +kernel
theorem dL_law_1453 : decode cL_law 1453 = .ok (.invokestatic 203, 3) := by decide +kernel
theorem dL_law_1456 : decode cL_law 1456 = .ok (.istore 5, 2) := by decide +kernel
theorem dL_law_1458 : decode cL_law 1458 = .ok (.aload_n 2, 1) := by decide +kernel
theorem dL_law_1459 : decode cL_law 1459 = .ok (.aload_n 0, 1) := by decide +kernel
theorem dL_law_1460 : decode cL_law 1460 = .ok (.iload 4, 2) := by decide +kernel
theorem dL_law_1462 : decode cL_law 1462 = .ok (.iconst 1, 1) := by decide +kernel
theorem dL_law_1463 : decode cL_law 1463 = .ok (.iadd, 1) := by decide +kernel
theorem dL_law_1464 : decode cL_law 1464 = .ok (.iaload, 1) := by decide +kernel
theorem dL_law_1465 : decode cL_law 1465 = .ok (.invokevirtual 205, 3) := by decide +kernel
theorem dL_law_1468 : decode cL_law 1468 = .ok (.istore 6, 2) := by decide +kernel
theorem dL_law_1470 : decode cL_law 1470 = .ok (.aload_n 2, 1) := by decide +kernel
theorem dL_law_1471 : decode cL_law 1471 = .ok (.invokevirtual 113, 3) := by decide +kernel
theorem dL_law_1474 : decode cL_law 1474 = .ok (.iload 5, 2) := by decide +kernel
theorem dL_law_1476 : decode cL_law 1476 = .ok (.if_icmp .eq 5, 3) := by decide +kernel
theorem dL_law_1479 : decode cL_law 1479 = .ok (.iconst 0, 1) := by decide +kernel
theorem dL_law_1480 : decode cL_law 1480 = .ok (.ireturn, 1) := by decide +kernel
theorem dL_law_1481 : decode cL_law 1481 = .ok (.iload 5, 2) := by decide +kernel
theorem dL_law_1483 : decode cL_law 1483 = .ok (.ifCond .ne 15, 3) := by decide +kernel
theorem dL_law_1486 : decode cL_law 1486 = .ok (.aload_n 3, 1) := by decide +kernel
theorem dL_law_1487 : decode cL_law 1487 = .ok (.iconst 0, 1) := by decide +kernel
theorem dL_law_1488 : decode cL_law 1488 = .ok (.laload, 1) := by decide +kernel
theorem dL_law_1489 : decode cL_law 1489 = .ok (.iload 6, 2) := by decide +kernel
theorem dL_law_1491 : decode cL_law 1491 = .ok (.i2l, 1) := by decide +kernel
theorem dL_law_1492 : decode cL_law 1492 = .ok (.lcmp, 1) := by decide +kernel
theorem dL_law_1493 : decode cL_law 1493 = .ok (.ifCond .eq 5, 3) := by decide +kernel
theorem dL_law_1496 : decode cL_law 1496 = .ok (.iconst 0, 1) := by decide +kernel
theorem dL_law_1497 : decode cL_law 1497 = .ok (.ireturn, 1) := by decide +kernel
theorem dL_law_1498 : decode cL_law 1498 = .ok (.goto 805, 3) := by decide +kernel
theorem dL_law_1501 : decode cL_law 1501 = .ok (.aload_n 1, 1) := by decide +kernel
theorem dL_law_1502 : decode cL_law 1502 = .ok (.invokevirtual 206, 3) := by decide +kernel
theorem dL_law_1505 : decode cL_law 1505 = .ok (.aload_n 2, 1) := by decide +kernel
theorem dL_law_1506 : decode cL_law 1506 = .ok (.invokevirtual 209, 3) := by decide +kernel
theorem dL_law_1509 : decode cL_law 1509 = .ok (.if_icmp .eq 794, 3) := by decide +kernel
theorem dL_law_1512 : decode cL_law 1512 = .ok (.iconst 0, 1) := by decide +kernel
theorem dL_law_1513 : decode cL_law 1513 = .ok (.ireturn, 1) := by decide +kernel
theorem dL_law_1514 : decode cL_law 1514 = .ok (.aload_n 1, 1) := by decide +kernel
theorem dL_law_1515 : decode cL_law 1515 = .ok (.invokevirtual 210, 3) := by decide +kernel
theorem dL_law_1518 : decode cL_law 1518 = .ok (.aload_n 2, 1) := by decide +kernel
theorem dL_law_1519 : decode cL_law 1519 = .ok (.invokevirtual 213, 3) := by decide +kernel
theorem dL_law_1522 : decode cL_law 1522 = .ok (.if_icmp .eq 781, 3) := by decide +kernel
theorem dL_law_1525 : decode cL_law 1525 = .ok (.iconst 0, 1) := by decide +kernel
theorem dL_law_1526 : decode cL_law 1526 = .ok (.ireturn, 1) := by decide +kernel
theorem dL_law_1527 : decode cL_law 1527 = .ok (.aload_n 1, 1) := by decide +kernel
theorem dL_law_1528 : decode cL_law 1528 = .ok (.aload_n 0, 1) := by decide +kernel
theorem dL_law_1529 : decode cL_law 1529 = .ok (.iload 4, 2) := by decide +kernel
theorem dL_law_1531 : decode cL_law 1531 = .ok (.iconst 1, 1) := by decide +kernel
theorem dL_law_1532 : decode cL_law 1532 = .ok (.iadd, 1) := by decide +kernel
theorem dL_law_1533 : decode cL_law 1533 = .ok (.iaload, 1) := by decide +kernel
theorem dL_law_1534 : decode cL_law 1534 = .ok (.aload_n 3, 1) := by decide +kernel
theorem dL_law_1535 : decode cL_law 1535 = .ok (.invokestatic 214, 3) := by decide +kernel
theorem dL_law_1538 : decode cL_law 1538 = .ok (.istore 5, 2) := by decide +kernel
theorem dL_law_1540 : decode cL_law 1540 = .ok (.aload_n 2, 1) := by decide +kernel
theorem dL_law_1541 : decode cL_law 1541 = .ok (.aload_n 0, 1) := by decide +kernel
theorem dL_law_1542 : decode cL_law 1542 = .ok (.iload 4, 2) := by decide +kernel
theorem dL_law_1544 : decode cL_law 1544 = .ok (.iconst 1, 1) := by decide +kernel
theorem dL_law_1545 : decode cL_law 1545 = .ok (.iadd, 1) := by decide +kernel
theorem dL_law_1546 : decode cL_law 1546 = .ok (.iaload, 1) := by decide +kernel
theorem dL_law_1547 : decode cL_law 1547 = .ok (.invokevirtual 216, 3) := by decide +kernel
theorem dL_law_1550 : decode cL_law 1550 = .ok (.istore 6, 2) := by decide +kernel
theorem dL_law_1552 : decode cL_law 1552 = .ok (.aload_n 2, 1) := by decide +kernel
theorem dL_law_1553 : decode cL_law 1553 = .ok (.invokevirtual 113, 3) := by decide +kernel
theorem dL_law_1556 : decode cL_law 1556 = .ok (.iload 5, 2) := by decide +kernel
theorem dL_law_1558 : decode cL_law 1558 = .ok (.if_icmp .eq 5, 3) := by decide +kernel
theorem dL_law_1561 : decode cL_law 1561 = .ok (.iconst 0, 1) := by decide +kernel
theorem dL_law_1562 : decode cL_law 1562 = .ok (.ireturn, 1) := by decide +kernel
theorem dL_law_1563 : decode cL_law 1563 = .ok (.iload 5, 2) := by decide +kernel
theorem dL_law_1565 : decode cL_law 1565 = .ok (.ifCond .ne 22, 3) := by decide +kernel
theorem dL_law_1568 : decode cL_law 1568 = .ok (.aload_n 3, 1) := by decide +kernel
theorem dL_law_1569 : decode cL_law 1569 = .ok (.iconst 0, 1) := by decide +kernel
theorem dL_law_1570 : decode cL_law 1570 = .ok (.laload, 1) := by decide +kernel
theorem dL_law_1571 : decode cL_law 1571 = .ok (.iload 6, 2) := by decide +kernel
theorem dL_law_1573 : decode cL_law 1573 = .ok (.ifCond .eq 7, 3) := by decide +kernel
theorem dL_law_1576 : decode cL_law 1576 = .ok (.lconst 1, 1) := by decide +kernel
theorem dL_law_1577 : decode cL_law 1577 = .ok (.goto 4, 3) := by decide +kernel
theorem dL_law_1580 : decode cL_law 1580 = .ok (.lconst 0, 1) := by decide +kernel
theorem dL_law_1581 : decode cL_law 1581 = .ok (.lcmp, 1) := by decide +kernel
theorem dL_law_1582 : decode cL_law 1582 = .ok (.ifCond .eq 5, 3) := by decide +kernel
theorem dL_law_1585 : decode cL_law 1585 = .ok (.iconst 0, 1) := by decide +kernel
theorem dL_law_1586 : decode cL_law 1586 = .ok (.ireturn, 1) := by decide +kernel
theorem dL_law_1587 : decode cL_law 1587 = .ok (.goto 716, 3) := by decide +kernel
theorem dL_law_1590 : decode cL_law 1590 = .ok (.aload_n 1, 1) := by decide +kernel
theorem dL_law_1591 : decode cL_law 1591 = .ok (.aload_n 0, 1) := by decide +kernel
theorem dL_law_1592 : decode cL_law 1592 = .ok (.iload 4, 2) := by decide +kernel
theorem dL_law_1594 : decode cL_law 1594 = .ok (.iconst 1, 1) := by decide +kernel
theorem dL_law_1595 : decode cL_law 1595 = .ok (.iadd, 1) := by decide +kernel
theorem dL_law_1596 : decode cL_law 1596 = .ok (.iaload, 1) := by decide +kernel
theorem dL_law_1597 : decode cL_law 1597 = .ok (.aload_n 3, 1) := by decide +kernel
theorem dL_law_1598 : decode cL_law 1598 = .ok (.invokestatic 217, 3) := by decide +kernel
theorem dL_law_1601 : decode cL_law 1601 = .ok (.istore 5, 2) := by decide +kernel
theorem dL_law_1603 : decode cL_law 1603 = .ok (.aload_n 2, 1) := by decide +kernel
theorem dL_law_1604 : decode cL_law 1604 = .ok (.aload_n 0, 1) := by decide +kernel
theorem dL_law_1605 : decode cL_law 1605 = .ok (.iload 4, 2) := by decide +kernel
theorem dL_law_1607 : decode cL_law 1607 = .ok (.iconst 1, 1) := by decide +kernel
theorem dL_law_1608 : decode cL_law 1608 = .ok (.iadd, 1) := by decide +kernel
theorem dL_law_1609 : decode cL_law 1609 = .ok (.iaload, 1) := by decide +kernel
theorem dL_law_1610 : decode cL_law 1610 = .ok (.invokevirtual 219, 3) := by decide +kernel
theorem dL_law_1613 : decode cL_law 1613 = .ok (.istore 6, 2) := by decide +kernel
theorem dL_law_1615 : decode cL_law 1615 = .ok (.aload_n 2, 1) := by decide +kernel
theorem dL_law_1616 : decode cL_law 1616 = .ok (.invokevirtual 113, 3) := by decide +kernel
theorem dL_law_1619 : decode cL_law 1619 = .ok (.iload 5, 2) := by decide +kernel
theorem dL_law_1621 : decode cL_law 1621 = .ok (.if_icmp .eq 5, 3) := by decide +kernel
theorem dL_law_1624 : decode cL_law 1624 = .ok (.iconst 0, 1) := by decide +kernel
theorem dL_law_1625 : decode cL_law 1625 = .ok (.ireturn, 1) := by decide +kernel
theorem dL_law_1626 : decode cL_law 1626 = .ok (.iload 5, 2) := by decide +kernel
theorem dL_law_1628 : decode cL_law 1628 = .ok (.ifCond .ne 22, 3) := by decide +kernel
theorem dL_law_1631 : decode cL_law 1631 = .ok (.aload_n 3, 1) := by decide +kernel
theorem dL_law_1632 : decode cL_law 1632 = .ok (.iconst 0, 1) := by decide +kernel
theorem dL_law_1633 : decode cL_law 1633 = .ok (.laload, 1) := by decide +kernel
theorem dL_law_1634 : decode cL_law 1634 = .ok (.iload 6, 2) := by decide +kernel
theorem dL_law_1636 : decode cL_law 1636 = .ok (.ifCond .eq 7, 3) := by decide +kernel
theorem dL_law_1639 : decode cL_law 1639 = .ok (.lconst 1, 1) := by decide +kernel
theorem dL_law_1640 : decode cL_law 1640 = .ok (.goto 4, 3) := by decide +kernel
theorem dL_law_1643 : decode cL_law 1643 = .ok (.lconst 0, 1) := by decide +kernel
theorem dL_law_1644 : decode cL_law 1644 = .ok (.lcmp, 1) := by decide +kernel
theorem dL_law_1645 : decode cL_law 1645 = .ok (.ifCond .eq 5, 3) := by decide +kernel
theorem dL_law_1648 : decode cL_law 1648 = .ok (.iconst 0, 1) := by decide +kernel
theorem dL_law_1649 : decode cL_law 1649 = .ok (.ireturn, 1) := by decide +kernel
theorem dL_law_1650 : decode cL_law 1650 = .ok (.goto 653, 3) := by decide +kernel
theorem dL_law_1653 : decode cL_law 1653 = .ok (.aload_n 1, 1) := by decide +kernel
theorem dL_law_1654 : decode cL_law 1654 = .ok (.aload_n 0, 1) := by decide +kernel
theorem dL_law_1655 : decode cL_law 1655 = .ok (.iload 4, 2) := by decide +kernel
theorem dL_law_1657 : decode cL_law 1657 = .ok (.iconst 1, 1) := by decide +kernel
theorem dL_law_1658 : decode cL_law 1658 = .ok (.iadd, 1) := by decide +kernel
theorem dL_law_1659 : decode cL_law 1659 = .ok (.iaload, 1) := by decide +kernel
theorem dL_law_1660 : decode cL_law 1660 = .ok (.aload_n 3, 1) := by decide +kernel
theorem dL_law_1661 : decode cL_law 1661 = .ok (.invokestatic 220, 3) := by decide +kernel
theorem dL_law_1664 : decode cL_law 1664 = .ok (.istore 5, 2) := by decide +kernel
theorem dL_law_1666 : decode cL_law 1666 = .ok (.aload_n 2, 1) := by decide +kernel
theorem dL_law_1667 : decode cL_law 1667 = .ok (.aload_n 0, 1) := by decide +kernel
theorem dL_law_1668 : decode cL_law 1668 = .ok (.iload 4, 2) := by decide +kernel
theorem dL_law_1670 : decode cL_law 1670 = .ok (.iconst 1, 1) := by decide +kernel
theorem dL_law_1671 : decode cL_law 1671 = .ok (.iadd, 1) := by decide +kernel
theorem dL_law_1672 : decode cL_law 1672 = .ok (.iaload, 1) := by decide +kernel
theorem dL_law_1673 : decode cL_law 1673 = .ok (.invokevirtual 222, 3) := by decide +kernel
theorem dL_law_1676 : decode cL_law 1676 = .ok (.istore 6, 2) := by decide +kernel
theorem dL_law_1678 : decode cL_law 1678 = .ok (.aload_n 2, 1) := by decide +kernel
theorem dL_law_1679 : decode cL_law 1679 = .ok (.invokevirtual 113, 3) := by decide +kernel
theorem dL_law_1682 : decode cL_law 1682 = .ok (.iload 5, 2) := by decide +kernel
theorem dL_law_1684 : decode cL_law 1684 = .ok (.if_icmp .eq 5, 3) := by decide +kernel
theorem dL_law_1687 : decode cL_law 1687 = .ok (.iconst 0, 1) := by decide +kernel
theorem dL_law_1688 : decode cL_law 1688 = .ok (.ireturn, 1) := by decide +kernel
theorem dL_law_1689 : decode cL_law 1689 = .ok (.iload 5, 2) := by decide +kernel
theorem dL_law_1691 : decode cL_law 1691 = .ok (.ifCond .ne 22, 3) := by decide +kernel
theorem dL_law_1694 : decode cL_law 1694 = .ok (.aload_n 3, 1) := by decide +kernel
theorem dL_law_1695 : decode cL_law 1695 = .ok (.iconst 0, 1) := by decide +kernel
theorem dL_law_1696 : decode cL_law 1696 = .ok (.laload, 1) := by decide +kernel
theorem dL_law_1697 : decode cL_law 1697 = .ok (.iload 6, 2) := by decide +kernel
theorem dL_law_1699 : decode cL_law 1699 = .ok (.ifCond .eq 7, 3) := by decide +kernel
theorem dL_law_1702 : decode cL_law 1702 = .ok (.lconst 1, 1) := by decide +kernel
theorem dL_law_1703 : decode cL_law 1703 = .ok (.goto 4, 3) := by decide +kernel
theorem dL_law_1706 : decode cL_law 1706 = .ok (.lconst 0, 1) := by decide +kernel
theorem dL_law_1707 : decode cL_law 1707 = .ok (.lcmp, 1) := by decide +kernel
theorem dL_law_1708 : decode cL_law 1708 = .ok (.ifCond .eq 5, 3) := by decide +kernel
theorem dL_law_1711 : decode cL_law 1711 = .ok (.iconst 0, 1) := by decide +kernel
theorem dL_law_1712 : decode cL_law 1712 = .ok (.ireturn, 1) := by decide +kernel
theorem dL_law_1713 : decode cL_law 1713 = .ok (.goto 590, 3) := by decide +kernel
theorem dL_law_1716 : decode cL_law 1716 = .ok (.aload_n 1, 1) := by decide +kernel
theorem dL_law_1717 : decode cL_law 1717 = .ok (.aload_n 0, 1) := by decide +kernel
theorem dL_law_1718 : decode cL_law 1718 = .ok (.iload 4, 2) := by decide +kernel
theorem dL_law_1720 : decode cL_law 1720 = .ok (.iconst 1, 1) := by decide +kernel
theorem dL_law_1721 : decode cL_law 1721 = .ok (.iadd, 1) := by decide +kernel
theorem dL_law_1722 : decode cL_law 1722 = .ok (.iaload, 1) := by decide +kernel
theorem dL_law_1723 : decode cL_law 1723 = .ok (.aload_n 3, 1) := by decide +kernel
theorem dL_law_1724 : decode cL_law 1724 = .ok (.invokestatic 223, 3) := by decide +kernel
theorem dL_law_1727 : decode cL_law 1727 = .ok (.istore 5, 2) := by decide +kernel
theorem dL_law_1729 : decode cL_law 1729 = .ok (.aload_n 2, 1) := by decide +kernel
theorem dL_law_1730 : decode cL_law 1730 = .ok (.aload_n 0, 1) := by decide +kernel
theorem dL_law_1731 : decode cL_law 1731 = .ok (.iload 4, 2) := by decide +kernel
theorem dL_law_1733 : decode cL_law 1733 = .ok (.iconst 1, 1) := by decide +kernel
theorem dL_law_1734 : decode cL_law 1734 = .ok (.iadd, 1) := by decide +kernel
theorem dL_law_1735 : decode cL_law 1735 = .ok (.iaload, 1) := by decide +kernel
theorem dL_law_1736 : decode cL_law 1736 = .ok (.invokevirtual 225, 3) := by decide +kernel
theorem dL_law_1739 : decode cL_law 1739 = .ok (.istore 6, 2) := by decide +kernel
theorem dL_law_1741 : decode cL_law 1741 = .ok (.aload_n 2, 1) := by decide +kernel
theorem dL_law_1742 : decode cL_law 1742 = .ok (.invokevirtual 113, 3) := by decide +kernel
theorem dL_law_1745 : decode cL_law 1745 = .ok (.iload 5, 2) := by decide +kernel
theorem dL_law_1747 : decode cL_law 1747 = .ok (.if_icmp .eq 5, 3) := by decide +kernel
theorem dL_law_1750 : decode cL_law 1750 = .ok (.iconst 0, 1) := by decide +kernel
theorem dL_law_1751 : decode cL_law 1751 = .ok (.ireturn, 1) := by decide +kernel
theorem dL_law_1752 : decode cL_law 1752 = .ok (.iload 5, 2) := by decide +kernel
theorem dL_law_1754 : decode cL_law 1754 = .ok (.ifCond .ne 15, 3) := by decide +kernel
theorem dL_law_1757 : decode cL_law 1757 = .ok (.aload_n 3, 1) := by decide +kernel
theorem dL_law_1758 : decode cL_law 1758 = .ok (.iconst 0, 1) := by decide +kernel
theorem dL_law_1759 : decode cL_law 1759 = .ok (.laload, 1) := by decide +kernel
theorem dL_law_1760 : decode cL_law 1760 = .ok (.iload 6, 2) := by decide +kernel
theorem dL_law_1762 : decode cL_law 1762 = .ok (.i2l, 1) := by decide +kernel
theorem dL_law_1763 : decode cL_law 1763 = .ok (.lcmp, 1) := by decide +kernel
theorem dL_law_1764 : decode cL_law 1764 = .ok (.ifCond .eq 5, 3) := by decide +kernel
theorem dL_law_1767 : decode cL_law 1767 = .ok (.iconst 0, 1) := by decide +kernel
theorem dL_law_1768 : decode cL_law 1768 = .ok (.ireturn, 1) := by decide +kernel
theorem dL_law_1769 : decode cL_law 1769 = .ok (.goto 534, 3) := by decide +kernel
theorem dL_law_1772 : decode cL_law 1772 = .ok (.aload_n 1, 1) := by decide +kernel
theorem dL_law_1773 : decode cL_law 1773 = .ok (.invokevirtual 226, 3) := by decide +kernel
theorem dL_law_1776 : decode cL_law 1776 = .ok (.aload_n 2, 1) := by decide +kernel
theorem dL_law_1777 : decode cL_law 1777 = .ok (.invokevirtual 229, 3) := by decide +kernel
theorem dL_law_1780 : decode cL_law 1780 = .ok (.if_icmp .eq 523, 3) := by decide +kernel
theorem dL_law_1783 : decode cL_law 1783 = .ok (.iconst 0, 1) := by decide +kernel
theorem dL_law_1784 : decode cL_law 1784 = .ok (.ireturn, 1) := by decide +kernel
theorem dL_law_1785 : decode cL_law 1785 = .ok (.aload_n 1, 1) := by decide +kernel
theorem dL_law_1786 : decode cL_law 1786 = .ok (.invokevirtual 230, 3) := by decide +kernel
theorem dL_law_1789 : decode cL_law 1789 = .ok (.aload_n 2, 1) := by decide +kernel
theorem dL_law_1790 : decode cL_law 1790 = .ok (.invokevirtual 233, 3) := by decide +kernel
theorem dL_law_1793 : decode cL_law 1793 = .ok (.if_icmp .eq 510, 3) := by decide +kernel
theorem dL_law_1796 : decode cL_law 1796 = .ok (.iconst 0, 1) := by decide +kernel
theorem dL_law_1797 : decode cL_law 1797 = .ok (.ireturn, 1) := by decide +kernel
theorem dL_law_1798 : decode cL_law 1798 = .ok (.aload_n 1, 1) := by decide +kernel
theorem dL_law_1799 : decode cL_law 1799 = .ok (.invokevirtual 234, 3) := by decide +kernel
theorem dL_law_1802 : decode cL_law 1802 = .ok (.aload_n 2, 1) := by decide +kernel
theorem dL_law_1803 : decode cL_law 1803 = .ok (.invokevirtual 237, 3) := by decide +kernel
theorem dL_law_1806 : decode cL_law 1806 = .ok (.if_icmp .eq 497, 3) := by decide +kernel
theorem dL_law_1809 : decode cL_law 1809 = .ok (.iconst 0, 1) := by decide +kernel
theorem dL_law_1810 : decode cL_law 1810 = .ok (.ireturn, 1) := by decide +kernel
theorem dL_law_1811 : decode cL_law 1811 = .ok (.aload_n 1, 1) := by decide +kernel
theorem dL_law_1812 : decode cL_law 1812 = .ok (.aload_n 0, 1) := by decide +kernel
theorem dL_law_1813 : decode cL_law 1813 = .ok (.iload 4, 2) := by decide +kernel
theorem dL_law_1815 : decode cL_law 1815 = .ok (.iconst 1, 1) := by decide +kernel
theorem dL_law_1816 : decode cL_law 1816 = .ok (.iadd, 1) := by decide +kernel
theorem dL_law_1817 : decode cL_law 1817 = .ok (.iaload, 1) := by decide +kernel
theorem dL_law_1818 : decode cL_law 1818 = .ok (.aload_n 3, 1) := by decide +kernel
theorem dL_law_1819 : decode cL_law 1819 = .ok (.invokestatic 238, 3) := by decide +kernel
theorem dL_law_1822 : decode cL_law 1822 = .ok (.istore 5, 2) := by decide +kernel
theorem dL_law_1824 : decode cL_law 1824 = .ok (.aload_n 2, 1) := by decide +kernel
theorem dL_law_1825 : decode cL_law 1825 = .ok (.aload_n 0, 1) := by decide +kernel
theorem dL_law_1826 : decode cL_law 1826 = .ok (.iload 4, 2) := by decide +kernel
theorem dL_law_1828 : decode cL_law 1828 = .ok (.iconst 1, 1) := by decide +kernel
theorem dL_law_1829 : decode cL_law 1829 = .ok (.iadd, 1) := by decide +kernel
theorem dL_law_1830 : decode cL_law 1830 = .ok (.iaload, 1) := by decide +kernel
theorem dL_law_1831 : decode cL_law 1831 = .ok (.invokevirtual 240, 3) := by decide +kernel
theorem dL_law_1834 : decode cL_law 1834 = .ok (.istore 6, 2) := by decide +kernel
theorem dL_law_1836 : decode cL_law 1836 = .ok (.aload_n 2, 1) := by decide +kernel
theorem dL_law_1837 : decode cL_law 1837 = .ok (.invokevirtual 113, 3) := by decide +kernel
theorem dL_law_1840 : decode cL_law 1840 = .ok (.iload 5, 2) := by decide +kernel
theorem dL_law_1842 : decode cL_law 1842 = .ok (.if_icmp .eq 5, 3) := by decide +kernel
theorem dL_law_1845 : decode cL_law 1845 = .ok (.iconst 0, 1) := by decide +kernel
theorem dL_law_1846 : decode cL_law 1846 = .ok (.ireturn, 1) := by decide +kernel
theorem dL_law_1847 : decode cL_law 1847 = .ok (.iload 5, 2) := by decide +kernel
theorem dL_law_1849 : decode cL_law 1849 = .ok (.ifCond .ne 15, 3) := by decide +kernel
theorem dL_law_1852 : decode cL_law 1852 = .ok (.aload_n 3, 1) := by decide +kernel
theorem dL_law_1853 : decode cL_law 1853 = .ok (.iconst 0, 1) := by decide +kernel
theorem dL_law_1854 : decode cL_law 1854 = .ok (.laload, 1) := by decide +kernel
theorem dL_law_1855 : decode cL_law 1855 = .ok (.iload 6, 2) := by decide +kernel
theorem dL_law_1857 : decode cL_law 1857 = .ok (.i2l, 1) := by decide +kernel
theorem dL_law_1858 : decode cL_law 1858 = .ok (.lcmp, 1) := by decide +kernel
theorem dL_law_1859 : decode cL_law 1859 = .ok (.ifCond .eq 5, 3) := by decide +kernel
theorem dL_law_1862 : decode cL_law 1862 = .ok (.iconst 0, 1) := by decide +kernel
theorem dL_law_1863 : decode cL_law 1863 = .ok (.ireturn, 1) := by decide +kernel
theorem dL_law_1864 : decode cL_law 1864 = .ok (.goto 439, 3) := by decide +kernel
theorem dL_law_1867 : decode cL_law 1867 = .ok (.aload_n 1, 1) := by decide +kernel
theorem dL_law_1868 : decode cL_law 1868 = .ok (.aload_n 0, 1) := by decide +kernel
theorem dL_law_1869 : decode cL_law 1869 = .ok (.iload 4, 2) := by decide +kernel
theorem dL_law_1871 : decode cL_law 1871 = .ok (.iconst 1, 1) := by decide +kernel
theorem dL_law_1872 : decode cL_law 1872 = .ok (.iadd, 1) := by decide +kernel
theorem dL_law_1873 : decode cL_law 1873 = .ok (.iaload, 1) := by decide +kernel
theorem dL_law_1874 : decode cL_law 1874 = .ok (.aload_n 3, 1) := by decide +kernel
theorem dL_law_1875 : decode cL_law 1875 = .ok (.invokestatic 241, 3) := by decide +kernel
theorem dL_law_1878 : decode cL_law 1878 = .ok (.istore 5, 2) := by decide +kernel
theorem dL_law_1880 : decode cL_law 1880 = .ok (.aload_n 2, 1) := by decide +kernel
theorem dL_law_1881 : decode cL_law 1881 = .ok (.aload_n 0, 1) := by decide +kernel
theorem dL_law_1882 : decode cL_law 1882 = .ok (.iload 4, 2) := by decide +kernel
theorem dL_law_1884 : decode cL_law 1884 = .ok (.iconst 1, 1) := by decide +kernel
theorem dL_law_1885 : decode cL_law 1885 = .ok (.iadd, 1) := by decide +kernel
theorem dL_law_1886 : decode cL_law 1886 = .ok (.iaload, 1) := by decide +kernel
theorem dL_law_1887 : decode cL_law 1887 = .ok (.invokevirtual 243, 3) := by decide +kernel
theorem dL_law_1890 : decode cL_law 1890 = .ok (.istore 6, 2) := by decide +kernel
theorem dL_law_1892 : decode cL_law 1892 = .ok (.aload_n 2, 1) := by decide +kernel
theorem dL_law_1893 : decode cL_law 1893 = .ok (.invokevirtual 113, 3) := by decide +kernel
theorem dL_law_1896 : decode cL_law 1896 = .ok (.iload 5, 2) := by decide +kernel
theorem dL_law_1898 : decode cL_law 1898 = .ok (.if_icmp .eq 5, 3) := by decide +kernel
theorem dL_law_1901 : decode cL_law 1901 = .ok (.iconst 0, 1) := by decide +kernel
theorem dL_law_1902 : decode cL_law 1902 = .ok (.ireturn, 1) := by decide +kernel
theorem dL_law_1903 : decode cL_law 1903 = .ok (.iload 5, 2) := by decide +kernel
theorem dL_law_1905 : decode cL_law 1905 = .ok (.ifCond .ne 22, 3) := by decide +kernel
theorem dL_law_1908 : decode cL_law 1908 = .ok (.aload_n 3, 1) := by decide +kernel
theorem dL_law_1909 : decode cL_law 1909 = .ok (.iconst 0, 1) := by decide +kernel
theorem dL_law_1910 : decode cL_law 1910 = .ok (.laload, 1) := by decide +kernel
theorem dL_law_1911 : decode cL_law 1911 = .ok (.iload 6, 2) := by decide +kernel
theorem dL_law_1913 : decode cL_law 1913 = .ok (.ifCond .eq 7, 3) := by decide +kernel
theorem dL_law_1916 : decode cL_law 1916 = .ok (.lconst 1, 1) := by decide +kernel
theorem dL_law_1917 : decode cL_law 1917 = .ok (.goto 4, 3) := by decide +kernel
theorem dL_law_1920 : decode cL_law 1920 = .ok (.lconst 0, 1) := by decide +kernel
theorem dL_law_1921 : decode cL_law 1921 = .ok (.lcmp, 1) := by decide +kernel
theorem dL_law_1922 : decode cL_law 1922 = .ok (.ifCond .eq 5, 3) := by decide +kernel
theorem dL_law_1925 : decode cL_law 1925 = .ok (.iconst 0, 1) := by decide +kernel
theorem dL_law_1926 : decode cL_law 1926 = .ok (.ireturn, 1) := by decide +kernel
theorem dL_law_1927 : decode cL_law 1927 = .ok (.goto 376, 3) := by decide +kernel
theorem dL_law_1930 : decode cL_law 1930 = .ok (.aload_n 1, 1) := by decide +kernel
theorem dL_law_1931 : decode cL_law 1931 = .ok (.aload_n 0, 1) := by decide +kernel
theorem dL_law_1932 : decode cL_law 1932 = .ok (.iload 4, 2) := by decide +kernel
theorem dL_law_1934 : decode cL_law 1934 = .ok (.iconst 1, 1) := by decide +kernel
theorem dL_law_1935 : decode cL_law 1935 = .ok (.iadd, 1) := by decide +kernel
theorem dL_law_1936 : decode cL_law 1936 = .ok (.iaload, 1) := by decide +kernel
theorem dL_law_1937 : decode cL_law 1937 = .ok (.aload_n 3, 1) := by decide +kernel
theorem dL_law_1938 : decode cL_law 1938 = .ok (.invokestatic 244, 3) := by decide +kernel
theorem dL_law_1941 : decode cL_law 1941 = .ok (.istore 5, 2) := by decide +kernel
theorem dL_law_1943 : decode cL_law 1943 = .ok (.aload_n 2, 1) := by decide +kernel
theorem dL_law_1944 : decode cL_law 1944 = .ok (.aload_n 0, 1) := by decide +kernel
theorem dL_law_1945 : decode cL_law 1945 = .ok (.iload 4, 2) := by decide +kernel
theorem dL_law_1947 : decode cL_law 1947 = .ok (.iconst 1, 1) := by decide +kernel
theorem dL_law_1948 : decode cL_law 1948 = .ok (.iadd, 1) := by decide +kernel
theorem dL_law_1949 : decode cL_law 1949 = .ok (.iaload, 1) := by decide +kernel
theorem dL_law_1950 : decode cL_law 1950 = .ok (.invokevirtual 246, 3) := by decide +kernel
theorem dL_law_1953 : decode cL_law 1953 = .ok (.istore 6, 2) := by decide +kernel
theorem dL_law_1955 : decode cL_law 1955 = .ok (.aload_n 2, 1) := by decide +kernel
theorem dL_law_1956 : decode cL_law 1956 = .ok (.invokevirtual 113, 3) := by decide +kernel
theorem dL_law_1959 : decode cL_law 1959 = .ok (.iload 5, 2) := by decide +kernel
theorem dL_law_1961 : decode cL_law 1961 = .ok (.if_icmp .eq 5, 3) := by decide +kernel
theorem dL_law_1964 : decode cL_law 1964 = .ok (.iconst 0, 1) := by decide +kernel
theorem dL_law_1965 : decode cL_law 1965 = .ok (.ireturn, 1) := by decide +kernel
theorem dL_law_1966 : decode cL_law 1966 = .ok (.iload 5, 2) := by decide +kernel
theorem dL_law_1968 : decode cL_law 1968 = .ok (.ifCond .ne 22, 3) := by decide +kernel
theorem dL_law_1971 : decode cL_law 1971 = .ok (.aload_n 3, 1) := by decide +kernel
theorem dL_law_1972 : decode cL_law 1972 = .ok (.iconst 0, 1) := by decide +kernel
theorem dL_law_1973 : decode cL_law 1973 = .ok (.laload, 1) := by decide +kernel
theorem dL_law_1974 : decode cL_law 1974 = .ok (.iload 6, 2) := by decide +kernel
theorem dL_law_1976 : decode cL_law 1976 = .ok (.ifCond .eq 7, 3) := by decide +kernel
theorem dL_law_1979 : decode cL_law 1979 = .ok (.lconst 1, 1) := by decide +kernel
theorem dL_law_1980 : decode cL_law 1980 = .ok (.goto 4, 3) := by decide +kernel
theorem dL_law_1983 : decode cL_law 1983 = .ok (.lconst 0, 1) := by decide +kernel
theorem dL_law_1984 : decode cL_law 1984 = .ok (.lcmp, 1) := by decide +kernel
theorem dL_law_1985 : decode cL_law 1985 = .ok (.ifCond .eq 5, 3) := by decide +kernel
theorem dL_law_1988 : decode cL_law 1988 = .ok (.iconst 0, 1) := by decide +kernel
theorem dL_law_1989 : decode cL_law 1989 = .ok (.ireturn, 1) := by decide +kernel
theorem dL_law_1990 : decode cL_law 1990 = .ok (.goto 313, 3) := by decide +kernel
theorem dL_law_1993 : decode cL_law 1993 = .ok (.aload_n 1, 1) := by decide +kernel
theorem dL_law_1994 : decode cL_law 1994 = .ok (.invokevirtual 247, 3) := by decide +kernel
theorem dL_law_1997 : decode cL_law 1997 = .ok (.aload_n 2, 1) := by decide +kernel
theorem dL_law_1998 : decode cL_law 1998 = .ok (.invokevirtual 250, 3) := by decide +kernel
theorem dL_law_2001 : decode cL_law 2001 = .ok (.if_icmp .eq 302, 3) := by decide +kernel
theorem dL_law_2004 : decode cL_law 2004 = .ok (.iconst 0, 1) := by decide +kernel
theorem dL_law_2005 : decode cL_law 2005 = .ok (.ireturn, 1) := by decide +kernel
theorem dL_law_2006 : decode cL_law 2006 = .ok (.aload_n 1, 1) := by decide +kernel
theorem dL_law_2007 : decode cL_law 2007 = .ok (.invokevirtual 251, 3) := by decide +kernel
theorem dL_law_2010 : decode cL_law 2010 = .ok (.aload_n 2, 1) := by decide +kernel
theorem dL_law_2011 : decode cL_law 2011 = .ok (.invokevirtual 254, 3) := by decide +kernel
theorem dL_law_2014 : decode cL_law 2014 = .ok (.if_icmp .eq 289, 3) := by decide +kernel
theorem dL_law_2017 : decode cL_law 2017 = .ok (.iconst 0, 1) := by decide +kernel
theorem dL_law_2018 : decode cL_law 2018 = .ok (.ireturn, 1) := by decide +kernel
theorem dL_law_2019 : decode cL_law 2019 = .ok (.aload_n 1, 1) := by decide +kernel
theorem dL_law_2020 : decode cL_law 2020 = .ok (.invokevirtual 255, 3) := by decide +kernel
theorem dL_law_2023 : decode cL_law 2023 = .ok (.aload_n 2, 1) := by decide +kernel
theorem dL_law_2024 : decode cL_law 2024 = .ok (.invokevirtual 258, 3) := by decide +kernel
theorem dL_law_2027 : decode cL_law 2027 = .ok (.if_icmp .eq 276, 3) := by decide +kernel
theorem dL_law_2030 : decode cL_law 2030 = .ok (.iconst 0, 1) := by decide +kernel
theorem dL_law_2031 : decode cL_law 2031 = .ok (.ireturn, 1) := by decide +kernel
theorem dL_law_2032 : decode cL_law 2032 = .ok (.aload_n 1, 1) := by decide +kernel
theorem dL_law_2033 : decode cL_law 2033 = .ok (.invokevirtual 259, 3) := by decide +kernel
theorem dL_law_2036 : decode cL_law 2036 = .ok (.aload_n 2, 1) := by decide +kernel
theorem dL_law_2037 : decode cL_law 2037 = .ok (.invokevirtual 262, 3) := by decide +kernel
theorem dL_law_2040 : decode cL_law 2040 = .ok (.if_icmp .eq 263, 3) := by decide +kernel
theorem dL_law_2043 : decode cL_law 2043 = .ok (.iconst 0, 1) := by decide +kernel
theorem dL_law_2044 : decode cL_law 2044 = .ok (.ireturn, 1) := by decide +kernel
theorem dL_law_2045 : decode cL_law 2045 = .ok (.aload_n 1, 1) := by decide +kernel
theorem dL_law_2046 : decode cL_law 2046 = .ok (.invokevirtual 263, 3) := by decide +kernel
theorem dL_law_2049 : decode cL_law 2049 = .ok (.aload_n 2, 1) := by decide +kernel
theorem dL_law_2050 : decode cL_law 2050 = .ok (.invokevirtual 266, 3) := by decide +kernel
theorem dL_law_2053 : decode cL_law 2053 = .ok (.if_icmp .eq 250, 3) := by decide +kernel
theorem dL_law_2056 : decode cL_law 2056 = .ok (.iconst 0, 1) := by decide +kernel
theorem dL_law_2057 : decode cL_law 2057 = .ok (.ireturn, 1) := by decide +kernel
theorem dL_law_2058 : decode cL_law 2058 = .ok (.aload_n 1, 1) := by decide +kernel
theorem dL_law_2059 : decode cL_law 2059 = .ok (.invokevirtual 267, 3) := by decide +kernel
theorem dL_law_2062 : decode cL_law 2062 = .ok (.aload_n 2, 1) := by decide +kernel
theorem dL_law_2063 : decode cL_law 2063 = .ok (.invokevirtual 270, 3) := by decide +kernel
theorem dL_law_2066 : decode cL_law 2066 = .ok (.if_icmp .eq 237, 3) := by decide +kernel
theorem dL_law_2069 : decode cL_law 2069 = .ok (.iconst 0, 1) := by decide +kernel
theorem dL_law_2070 : decode cL_law 2070 = .ok (.ireturn, 1) := by decide +kernel
theorem dL_law_2071 : decode cL_law 2071 = .ok (.aload_n 1, 1) := by decide +kernel
theorem dL_law_2072 : decode cL_law 2072 = .ok (.invokevirtual 271, 3) := by decide +kernel
theorem dL_law_2075 : decode cL_law 2075 = .ok (.aload_n 2, 1) := by decide +kernel
theorem dL_law_2076 : decode cL_law 2076 = .ok (.invokevirtual 274, 3) := by decide +kernel
theorem dL_law_2079 : decode cL_law 2079 = .ok (.if_icmp .eq 224, 3) := by decide +kernel
theorem dL_law_2082 : decode cL_law 2082 = .ok (.iconst 0, 1) := by decide +kernel
theorem dL_law_2083 : decode cL_law 2083 = .ok (.ireturn, 1) := by decide +kernel
theorem dL_law_2084 : decode cL_law 2084 = .ok (.aload_n 1, 1) := by decide +kernel
theorem dL_law_2085 : decode cL_law 2085 = .ok (.invokevirtual 275, 3) := by decide +kernel
theorem dL_law_2088 : decode cL_law 2088 = .ok (.aload_n 2, 1) := by decide +kernel
theorem dL_law_2089 : decode cL_law 2089 = .ok (.invokevirtual 278, 3) := by decide +kernel
theorem dL_law_2092 : decode cL_law 2092 = .ok (.if_icmp .eq 211, 3) := by decide +kernel
theorem dL_law_2095 : decode cL_law 2095 = .ok (.iconst 0, 1) := by decide +kernel
theorem dL_law_2096 : decode cL_law 2096 = .ok (.ireturn, 1) := by decide +kernel
theorem dL_law_2097 : decode cL_law 2097 = .ok (.aload_n 1, 1) := by decide +kernel
theorem dL_law_2098 : decode cL_law 2098 = .ok (.invokevirtual 279, 3) := by decide +kernel
theorem dL_law_2101 : decode cL_law 2101 = .ok (.aload_n 2, 1) := by decide +kernel
theorem dL_law_2102 : decode cL_law 2102 = .ok (.invokevirtual 282, 3) := by decide +kernel
theorem dL_law_2105 : decode cL_law 2105 = .ok (.if_icmp .eq 198, 3) := by decide +kernel
theorem dL_law_2108 : decode cL_law 2108 = .ok (.iconst 0, 1) := by decide +kernel
theorem dL_law_2109 : decode cL_law 2109 = .ok (.ireturn, 1) := by decide +kernel
theorem dL_law_2110 : decode cL_law 2110 = .ok (.aload_n 1, 1) := by decide +kernel
theorem dL_law_2111 : decode cL_law 2111 = .ok (.invokevirtual 283, 3) := by decide +kernel
theorem dL_law_2114 : decode cL_law 2114 = .ok (.aload_n 2, 1) := by decide +kernel
theorem dL_law_2115 : decode cL_law 2115 = .ok (.invokevirtual 286, 3) := by decide +kernel
theorem dL_law_2118 : decode cL_law 2118 = .ok (.if_icmp .eq 185, 3) := by decide +kernel
theorem dL_law_2121 : decode cL_law 2121 = .ok (.iconst 0, 1) := by decide +kernel
theorem dL_law_2122 : decode cL_law 2122 = .ok (.ireturn, 1) := by decide +kernel
theorem dL_law_2123 : decode cL_law 2123 = .ok (.aload_n 1, 1) := by decide +kernel
theorem dL_law_2124 : decode cL_law 2124 = .ok (.invokevirtual 287, 3) := by decide +kernel
theorem dL_law_2127 : decode cL_law 2127 = .ok (.aload_n 2, 1) := by decide +kernel
theorem dL_law_2128 : decode cL_law 2128 = .ok (.invokevirtual 290, 3) := by decide +kernel
theorem dL_law_2131 : decode cL_law 2131 = .ok (.if_icmp .eq 172, 3) := by decide +kernel
theorem dL_law_2134 : decode cL_law 2134 = .ok (.iconst 0, 1) := by decide +kernel
theorem dL_law_2135 : decode cL_law 2135 = .ok (.ireturn, 1) := by decide +kernel
theorem dL_law_2136 : decode cL_law 2136 = .ok (.aload_n 1, 1) := by decide +kernel
theorem dL_law_2137 : decode cL_law 2137 = .ok (.invokevirtual 291, 3) := by decide +kernel
theorem dL_law_2140 : decode cL_law 2140 = .ok (.aload_n 2, 1) := by decide +kernel
theorem dL_law_2141 : decode cL_law 2141 = .ok (.invokevirtual 294, 3) := by decide +kernel
theorem dL_law_2144 : decode cL_law 2144 = .ok (.if_icmp .eq 159, 3) := by decide +kernel
theorem dL_law_2147 : decode cL_law 2147 = .ok (.iconst 0, 1) := by decide +kernel
theorem dL_law_2148 : decode cL_law 2148 = .ok (.ireturn, 1) := by decide +kernel
theorem dL_law_2149 : decode cL_law 2149 = .ok (.aload_n 1, 1) := by decide +kernel
theorem dL_law_2150 : decode cL_law 2150 = .ok (.aload_n 0, 1) := by decide +kernel
theorem dL_law_2151 : decode cL_law 2151 = .ok (.iload 4, 2) := by decide +kernel
theorem dL_law_2153 : decode cL_law 2153 = .ok (.iconst 1, 1) := by decide +kernel
theorem dL_law_2154 : decode cL_law 2154 = .ok (.iadd, 1) := by decide +kernel
theorem dL_law_2155 : decode cL_law 2155 = .ok (.iaload, 1) := by decide +kernel
theorem dL_law_2156 : decode cL_law 2156 = .ok (.aload_n 3, 1) := by decide +kernel
theorem dL_law_2157 : decode cL_law 2157 = .ok (.invokestatic 295, 3) := by decide +kernel
theorem dL_law_2160 : decode cL_law 2160 = .ok (.istore 5, 2) := by decide +kernel
theorem dL_law_2162 : decode cL_law 2162 = .ok (.aload_n 2, 1) := by decide +kernel
theorem dL_law_2163 : decode cL_law 2163 = .ok (.aload_n 0, 1) := by decide +kernel
theorem dL_law_2164 : decode cL_law 2164 = .ok (.iload 4, 2) := by decide +kernel
theorem dL_law_2166 : decode cL_law 2166 = .ok (.iconst 1, 1) := by decide +kernel
theorem dL_law_2167 : decode cL_law 2167 = .ok (.iadd, 1) := by decide +kernel
theorem dL_law_2168 : decode cL_law 2168 = .ok (.iaload, 1) := by decide +kernel
theorem dL_law_2169 : decode cL_law 2169 = .ok (.invokevirtual 297, 3) := by decide +kernel
theorem dL_law_2172 : decode cL_law 2172 = .ok (.istore 6, 2) := by decide +kernel
theorem dL_law_2174 : decode cL_law 2174 = .ok (.aload_n 2, 1) := by decide +kernel
theorem dL_law_2175 : decode cL_law 2175 = .ok (.invokevirtual 113, 3) := by decide +kernel
theorem dL_law_2178 : decode cL_law 2178 = .ok (.iload 5, 2) := by decide +kernel
theorem dL_law_2180 : decode cL_law 2180 = .ok (.if_icmp .eq 5, 3) := by decide +kernel
theorem dL_law_2183 : decode cL_law 2183 = .ok (.iconst 0, 1) := by decide +kernel
theorem dL_law_2184 : decode cL_law 2184 = .ok (.ireturn, 1) := by decide +kernel
theorem dL_law_2185 : decode cL_law 2185 = .ok (.iload 5, 2) := by decide +kernel
theorem dL_law_2187 : decode cL_law 2187 = .ok (.ifCond .ne 15, 3) := by decide +kernel
theorem dL_law_2190 : decode cL_law 2190 = .ok (.aload_n 3, 1) := by decide +kernel
theorem dL_law_2191 : decode cL_law 2191 = .ok (.iconst 0, 1) := by decide +kernel
theorem dL_law_2192 : decode cL_law 2192 = .ok (.laload, 1) := by decide +kernel
theorem dL_law_2193 : decode cL_law 2193 = .ok (.iload 6, 2) := by decide +kernel
theorem dL_law_2195 : decode cL_law 2195 = .ok (.i2l, 1) := by decide +kernel
theorem dL_law_2196 : decode cL_law 2196 = .ok (.lcmp, 1) := by decide +kernel
theorem dL_law_2197 : decode cL_law 2197 = .ok (.ifCond .eq 5, 3) := by decide +kernel
theorem dL_law_2200 : decode cL_law 2200 = .ok (.iconst 0, 1) := by decide +kernel
theorem dL_law_2201 : decode cL_law 2201 = .ok (.ireturn, 1) := by decide +kernel
theorem dL_law_2202 : decode cL_law 2202 = .ok (.goto 101, 3) := by decide +kernel
theorem dL_law_2205 : decode cL_law 2205 = .ok (.aload_n 1, 1) := by decide +kernel
theorem dL_law_2206 : decode cL_law 2206 = .ok (.invokevirtual 298, 3) := by decide +kernel
theorem dL_law_2209 : decode cL_law 2209 = .ok (.dstore 5, 2) := by decide +kernel
theorem dL_law_2211 : decode cL_law 2211 = .ok (.aload_n 2, 1) := by decide +kernel
theorem dL_law_2212 : decode cL_law 2212 = .ok (.invokevirtual 302, 3) := by decide +kernel
theorem dL_law_2215 : decode cL_law 2215 = .ok (.dstore 7, 2) := by decide +kernel
theorem dL_law_2217 : decode cL_law 2217 = .ok (.dload 5, 2) := by decide +kernel
theorem dL_law_2219 : decode cL_law 2219 = .ok (.dload 7, 2) := by decide +kernel
theorem dL_law_2221 : decode cL_law 2221 = .ok (.dcmp .l, 1) := by decide +kernel
theorem dL_law_2222 : decode cL_law 2222 = .ok (.ifCond .eq 21, 3) := by decide +kernel
theorem dL_law_2225 : decode cL_law 2225 = .ok (.dload 5, 2) := by decide +kernel
theorem dL_law_2227 : decode cL_law 2227 = .ok (.dload 5, 2) := by decide +kernel
theorem dL_law_2229 : decode cL_law 2229 = .ok (.dcmp .l, 1) := by decide +kernel
theorem dL_law_2230 : decode cL_law 2230 = .ok (.ifCond .eq 11, 3) := by decide +kernel
theorem dL_law_2233 : decode cL_law 2233 = .ok (.dload 7, 2) := by decide +kernel
theorem dL_law_2235 : decode cL_law 2235 = .ok (.dload 7, 2) := by decide +kernel
theorem dL_law_2237 : decode cL_law 2237 = .ok (.dcmp .l, 1) := by decide +kernel
theorem dL_law_2238 : decode cL_law 2238 = .ok (.ifCond .ne 5, 3) := by decide +kernel
theorem dL_law_2241 : decode cL_law 2241 = .ok (.iconst 0, 1) := by decide +kernel
theorem dL_law_2242 : decode cL_law 2242 = .ok (.ireturn, 1) := by decide +kernel
theorem dL_law_2243 : decode cL_law 2243 = .ok (.goto 60, 3) := by decide +kernel
theorem dL_law_2246 : decode cL_law 2246 = .ok (.aload_n 1, 1) := by decide +kernel
theorem dL_law_2247 : decode cL_law 2247 = .ok (.invokevirtual 303, 3) := by decide +kernel
theorem dL_law_2250 : decode cL_law 2250 = .ok (.f2d, 1) := by decide +kernel
theorem dL_law_2251 : decode cL_law 2251 = .ok (.dstore 5, 2) := by decide +kernel
theorem dL_law_2253 : decode cL_law 2253 = .ok (.aload_n 2, 1) := by decide +kernel
theorem dL_law_2254 : decode cL_law 2254 = .ok (.invokevirtual 307, 3) := by decide +kernel
theorem dL_law_2257 : decode cL_law 2257 = .ok (.f2d, 1) := by decide +kernel
theorem dL_law_2258 : decode cL_law 2258 = .ok (.dstore 7, 2) := by decide +kernel
theorem dL_law_2260 : decode cL_law 2260 = .ok (.dload 5, 2) := by decide +kernel
theorem dL_law_2262 : decode cL_law 2262 = .ok (.dload 7, 2) := by decide +kernel
theorem dL_law_2264 : decode cL_law 2264 = .ok (.dcmp .l, 1) := by decide +kernel
theorem dL_law_2265 : decode cL_law 2265 = .ok (.ifCond .eq 21, 3) := by decide +kernel
theorem dL_law_2268 : decode cL_law 2268 = .ok (.dload 5, 2) := by decide +kernel
theorem dL_law_2270 : decode cL_law 2270 = .ok (.dload 5, 2) := by decide +kernel
theorem dL_law_2272 : decode cL_law 2272 = .ok (.dcmp .l, 1) := by decide +kernel
theorem dL_law_2273 : decode cL_law 2273 = .ok (.ifCond .eq 11, 3) := by decide +kernel
theorem dL_law_2276 : decode cL_law 2276 = .ok (.dload 7, 2) := by decide +kernel
theorem dL_law_2278 : decode cL_law 2278 = .ok (.dload 7, 2) := by decide +kernel
theorem dL_law_2280 : decode cL_law 2280 = .ok (.dcmp .l, 1) := by decide +kernel
theorem dL_law_2281 : decode cL_law 2281 = .ok (.ifCond .ne 5, 3) := by decide +kernel
theorem dL_law_2284 : decode cL_law 2284 = .ok (.iconst 0, 1) := by decide +kernel
theorem dL_law_2285 : decode cL_law 2285 = .ok (.ireturn, 1) := by decide +kernel
theorem dL_law_2286 : decode cL_law 2286 = .ok (.goto 17, 3) := by decide +kernel
theorem dL_law_2289 : decode cL_law 2289 = .ok (.aload_n 1, 1) := by decide +kernel
theorem dL_law_2290 : decode cL_law 2290 = .ok (.invokevirtual 308, 3) := by decide +kernel
theorem dL_law_2293 : decode cL_law 2293 = .ok (.aload_n 2, 1) := by decide +kernel
theorem dL_law_2294 : decode cL_law 2294 = .ok (.invokevirtual 312, 3) := by decide +kernel
theorem dL_law_2297 : decode cL_law 2297 = .ok (.lcmp, 1) := by decide +kernel
theorem dL_law_2298 : decode cL_law 2298 = .ok (.ifCond .eq 5, 3) := by decide +kernel
theorem dL_law_2301 : decode cL_law 2301 = .ok (.iconst 0, 1) := by decide +kernel
theorem dL_law_2302 : decode cL_law 2302 = .ok (.ireturn, 1) := by decide +kernel
theorem dL_law_2303 : decode cL_law 2303 = .ok (.iinc 4 4, 3) := by decide +kernel
theorem dL_law_2306 : decode cL_law 2306 = .ok (.goto (-2283), 3) := by decide +kernel
theorem dL_law_2309 : decode cL_law 2309 = .ok (.iconst 1, 1) := by decide +kernel
theorem dL_law_2310 : decode cL_law 2310 = .ok (.ireturn, 1) := by decide +kernel
