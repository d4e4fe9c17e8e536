theorem dX0_init_0 : decode cX0_init 0 = .ok (.aload_n 0, 1) := by decide +kernel
theorem dX0_init_1 : decode cX0_init 1 = .ok (.invokespecial 3, 3) := by decide +kernel
theorem dX0_init_4 : decode cX0_init 4 = .ok (.aload_n 0, 1) := by decide +kernel
theorem dX0_init_5 : decode cX0_init 5 = .ok (.bipush 10, 2) := by decide +kernel
theorem dX0_init_7 : decode cX0_init 7 = .ok (.anewarray 9, 3) := by decide +kernel
theorem dX0_init_10 : decode cX0_init 10 = .ok (.putfield 11, 3) := by decide +kernel
theorem dX0_init_13 : decode cX0_init 13 = .ok (.iconst 0, 1) := by decide +kernel
theorem dX0_init_14 : decode cX0_init 14 = .ok (.istore_n 1, 1) := by decide +kernel
theorem dX0_init_15 : decode cX0_init 15 = .ok (.iload_n 1, 1) := by decide +kernel
theorem dX0_init_16 : decode cX0_init 16 = .ok (.aload_n 0, 1) := by decide +kernel
theorem dX0_init_17 : decode cX0_init 17 = .ok (.getfield 11, 3) := by decide +kernel
theorem dX0_init_20 : decode cX0_init 20 = .ok (.arraylength, 1) := by decide +kernel
theorem dX0_init_21 : decode cX0_init 21 = .ok (.if_icmp .ge 22, 3) := by decide +kernel
theorem dX0_init_24 : decode cX0_init 24 = .ok (.aload_n 0, 1) := by decide +kernel
theorem dX0_init_25 : decode cX0_init 25 = .ok (.getfield 11, 3) := by decide +kernel
theorem dX0_init_28 : decode cX0_init 28 = .ok (.iload_n 1, 1) := by decide +kernel
theorem dX0_init_29 : decode cX0_init 29 = .ok (.new 9, 3) := by decide +kernel
theorem dX0_init_32 : decode cX0_init 32 = .ok (.dup, 1) := by decide +kernel
theorem dX0_init_33 : decode cX0_init 33 = .ok (.invokespecial 17, 3) := by decide +kernel
theorem dX0_init_36 : decode cX0_init 36 = .ok (.aastore, 1) := by decide +kernel
theorem dX0_init_37 : decode cX0_init 37 = .ok (.iinc 1 1, 3) := by decide +kernel
theorem dX0_init_40 : decode cX0_init 40 = .ok (.goto (-25), 3) := by decide +kernel
theorem dX0_init_43 : decode cX0_init 43 = .ok (.aload_n 0, 1) := by decide +kernel
theorem dX0_init_44 : decode cX0_init 44 = .ok (.new 9, 3) := by decide +kernel
theorem dX0_init_47 : decode cX0_init 47 = .ok (.dup, 1) := by decide +kernel
theorem dX0_init_48 : decode cX0_init 48 = .ok (.invokespecial 17, 3) := by decide +kernel
theorem dX0_init_51 : decode cX0_init 51 = .ok (.putfield 18, 3) := by decide +kernel
theorem dX0_init_54 : decode cX0_init 54 = .ok (.return_, 1) := by decide +kernel
theorem dX0_at_0 : decode cX0_at 0 = .ok (.iload_n 1, 1) := by decide +kernel
theorem dX0_at_1 : decode cX0_at 1 = .ok (.ifCond .lt 12, 3) := by decide +kernel
theorem dX0_at_4 : decode cX0_at 4 = .ok (.iload_n 1, 1) := by decide +kernel
theorem dX0_at_5 : decode cX0_at 5 = .ok (.aload_n 0, 1) := by decide +kernel
theorem dX0_at_6 : decode cX0_at 6 = .ok (.getfield 11, 3) := by decide +kernel
theorem dX0_at_9 : decode cX0_at 9 = .ok (.arraylength, 1) := by decide +kernel
theorem dX0_at_10 : decode cX0_at 10 = .ok (.if_icmp .lt 8, 3) := by decide +kernel
theorem dX0_at_13 : decode cX0_at 13 = .ok (.aload_n 0, 1) := by decide +kernel
theorem dX0_at_14 : decode cX0_at 14 = .ok (.getfield 18, 3) := by decide +kernel
theorem dX0_at_17 : decode cX0_at 17 = .ok (.areturn, 1) := by decide +kernel
theorem dX0_at_18 : decode cX0_at 18 = .ok (.aload_n 0, 1) := by decide +kernel
theorem dX0_at_19 : decode cX0_at 19 = .ok (.getfield 11, 3) := by decide +kernel
theorem dX0_at_22 : decode cX0_at 22 = .ok (.iload_n 1, 1) := by decide +kernel
theorem dX0_at_23 : decode cX0_at 23 = .ok (.aaload, 1) := by decide +kernel
theorem dX0_at_24 : decode cX0_at 24 = .ok (.astore_n 2, 1) := by decide +kernel
theorem dX0_at_25 : decode cX0_at 25 = .ok (.aload_n 2, 1) := by decide +kernel
theorem dX0_at_26 : decode cX0_at 26 = .ok (.ifnonnull 10, 3) := by decide +kernel
theorem dX0_at_29 : decode cX0_at 29 = .ok (.aload_n 0, 1) := by decide +kernel
theorem dX0_at_30 : decode cX0_at 30 = .ok (.getfield 18, 3) := by decide +kernel
theorem dX0_at_33 : decode cX0_at 33 = .ok (.goto 4, 3) := by decide +kernel
theorem dX0_at_36 : decode cX0_at 36 = .ok (.aload_n 2, 1) := by decide +kernel
theorem dX0_at_37 : decode cX0_at 37 = .ok (.areturn, 1) := by decide +kernel
theorem dX0_become_0 : decode cX0_become 0 = .ok (.aload_n 0, 1) := by decide +kernel
theorem dX0_become_1 : decode cX0_become 1 = .ok (.aload_n 1, 1) := by decide +kernel
theorem dX0_become_2 : decode cX0_become 2 = .ok (.getfield 22, 3) := by decide +kernel
theorem dX0_become_5 : decode cX0_become 5 = .ok (.putfield 22, 3) := by decide +kernel
theorem dX0_become_8 : decode cX0_become 8 = .ok (.aload_n 0, 1) := by decide +kernel
theorem dX0_become_9 : decode cX0_become 9 = .ok (.aload_n 1, 1) := by decide +kernel
theorem dX0_become_10 : decode cX0_become 10 = .ok (.getfield 26, 3) := by decide +kernel
theorem dX0_become_13 : decode cX0_become 13 = .ok (.putfield 26, 3) := by decide +kernel
theorem dX0_become_16 : decode cX0_become 16 = .ok (.aload_n 0, 1) := by decide +kernel
theorem dX0_become_17 : decode cX0_become 17 = .ok (.aload_n 1, 1) := by decide +kernel
theorem dX0_become_18 : decode cX0_become 18 = .ok (.getfield 29, 3) := by decide +kernel
theorem dX0_become_21 : decode cX0_become 21 = .ok (.putfield 29, 3) := by decide +kernel
theorem dX0_become_24 : decode cX0_become 24 = .ok (.aload_n 0, 1) := by decide +kernel
theorem dX0_become_25 : decode cX0_become 25 = .ok (.aload_n 1, 1) := by decide +kernel
theorem dX0_become_26 : decode cX0_become 26 = .ok (.getfield 32, 3) := by decide +kernel
theorem dX0_become_29 : decode cX0_become 29 = .ok (.putfield 32, 3) := by decide +kernel
theorem dX0_become_32 : decode cX0_become 32 = .ok (.aload_n 0, 1) := by decide +kernel
theorem dX0_become_33 : decode cX0_become 33 = .ok (.aload_n 1, 1) := by decide +kernel
theorem dX0_become_34 : decode cX0_become 34 = .ok (.getfield 35, 3) := by decide +kernel
theorem dX0_become_37 : decode cX0_become 37 = .ok (.putfield 35, 3) := by decide +kernel
theorem dX0_become_40 : decode cX0_become 40 = .ok (.iconst 0, 1) := by decide +kernel
theorem dX0_become_41 : decode cX0_become 41 = .ok (.istore_n 2, 1) := by decide +kernel
theorem dX0_become_42 : decode cX0_become 42 = .ok (.iload_n 2, 1) := by decide +kernel
theorem dX0_become_43 : decode cX0_become 43 = .ok (.aload_n 0, 1) := by decide +kernel
theorem dX0_become_44 : decode cX0_become 44 = .ok (.getfield 22, 3) := by decide +kernel
theorem dX0_become_47 : decode cX0_become 47 = .ok (.if_icmp .ge 22, 3) := by decide +kernel
theorem dX0_become_50 : decode cX0_become 50 = .ok (.aload_n 0, 1) := by decide +kernel
theorem dX0_become_51 : decode cX0_become 51 = .ok (.iload_n 2, 1) := by decide +kernel
theorem dX0_become_52 : decode cX0_become 52 = .ok (.invokevirtual 38, 3) := by decide +kernel
theorem dX0_become_55 : decode cX0_become 55 = .ok (.aload_n 1, 1) := by decide +kernel
theorem dX0_become_56 : decode cX0_become 56 = .ok (.iload_n 2, 1) := by decide +kernel
theorem dX0_become_57 : decode cX0_become 57 = .ok (.invokevirtual 38, 3) := by decide +kernel
theorem dX0_become_60 : decode cX0_become 60 = .ok (.invokevirtual 42, 3) := by decide +kernel
theorem dX0_become_63 : decode cX0_become 63 = .ok (.iinc 2 1, 3) := by decide +kernel
theorem dX0_become_66 : decode cX0_become 66 = .ok (.goto (-24), 3) := by decide +kernel
theorem dX0_become_69 : decode cX0_become 69 = .ok (.return_, 1) := by decide +kernel
theorem dX0_addRule_0 : decode cX0_addRule 0 = .ok (.aload_n 0, 1) := by decide +kernel
theorem dX0_addRule_1 : decode cX0_addRule 1 = .ok (.getfield 22, 3) := by decide +kernel
theorem dX0_addRule_4 : decode cX0_addRule 4 = .ok (.istore 4, 2) := by decide +kernel
theorem dX0_addRule_6 : decode cX0_addRule 6 = .ok (.aload_n 0, 1) := by decide +kernel
theorem dX0_addRule_7 : decode cX0_addRule 7 = .ok (.iload 4, 2) := by decide +kernel
theorem dX0_addRule_9 : decode cX0_addRule 9 = .ok (.invokevirtual 38, 3) := by decide +kernel
theorem dX0_addRule_12 : decode cX0_addRule 12 = .ok (.iload_n 1, 1) := by decide +kernel
theorem dX0_addRule_13 : decode cX0_addRule 13 = .ok (.iload_n 2, 1) := by decide +kernel
theorem dX0_addRule_14 : decode cX0_addRule 14 = .ok (.iload_n 3, 1) := by decide +kernel
theorem dX0_addRule_15 : decode cX0_addRule 15 = .ok (.invokevirtual 46, 3) := by decide +kernel
theorem dX0_addRule_18 : decode cX0_addRule 18 = .ok (.aload_n 0, 1) := by decide +kernel
theorem dX0_addRule_19 : decode cX0_addRule 19 = .ok (.dup, 1) := by decide +kernel
theorem dX0_addRule_20 : decode cX0_addRule 20 = .ok (.getfield 22, 3) := by decide +kernel
theorem dX0_addRule_23 : decode cX0_addRule 23 = .ok (.iconst 1, 1) := by decide +kernel
theorem dX0_addRule_24 : decode cX0_addRule 24 = .ok (.iadd, 1) := by decide +kernel
theorem dX0_addRule_25 : decode cX0_addRule 25 = .ok (.putfield 22, 3) := by decide +kernel
theorem dX0_addRule_28 : decode cX0_addRule 28 = .ok (.iload 4, 2) := by decide +kernel
theorem dX0_addRule_30 : decode cX0_addRule 30 = .ok (.ireturn, 1) := by decide +kernel
theorem dX0_dropRule_0 : decode cX0_dropRule 0 = .ok (.aload_n 0, 1) := by decide +kernel
theorem dX0_dropRule_1 : decode cX0_dropRule 1 = .ok (.dup, 1) := by decide +kernel
theorem dX0_dropRule_2 : decode cX0_dropRule 2 = .ok (.getfield 35, 3) := by decide +kernel
theorem dX0_dropRule_5 : decode cX0_dropRule 5 = .ok (.aload_n 0, 1) := by decide +kernel
theorem dX0_dropRule_6 : decode cX0_dropRule 6 = .ok (.iload_n 1, 1) := by decide +kernel
theorem dX0_dropRule_7 : decode cX0_dropRule 7 = .ok (.invokevirtual 38, 3) := by decide +kernel
theorem dX0_dropRule_10 : decode cX0_dropRule 10 = .ok (.getfield 50, 3) := by decide +kernel
theorem dX0_dropRule_13 : decode cX0_dropRule 13 = .ok (.iadd, 1) := by decide +kernel
theorem dX0_dropRule_14 : decode cX0_dropRule 14 = .ok (.putfield 35, 3) := by decide +kernel
theorem dX0_dropRule_17 : decode cX0_dropRule 17 = .ok (.iload_n 1, 1) := by decide +kernel
theorem dX0_dropRule_18 : decode cX0_dropRule 18 = .ok (.istore_n 2, 1) := by decide +kernel
theorem dX0_dropRule_19 : decode cX0_dropRule 19 = .ok (.iload_n 2, 1) := by decide +kernel
theorem dX0_dropRule_20 : decode cX0_dropRule 20 = .ok (.iconst 1, 1) := by decide +kernel
theorem dX0_dropRule_21 : decode cX0_dropRule 21 = .ok (.iadd, 1) := by decide +kernel
theorem dX0_dropRule_22 : decode cX0_dropRule 22 = .ok (.aload_n 0, 1) := by decide +kernel
theorem dX0_dropRule_23 : decode cX0_dropRule 23 = .ok (.getfield 22, 3) := by decide +kernel
theorem dX0_dropRule_26 : decode cX0_dropRule 26 = .ok (.if_icmp .ge 24, 3) := by decide +kernel
theorem dX0_dropRule_29 : decode cX0_dropRule 29 = .ok (.aload_n 0, 1) := by decide +kernel
theorem dX0_dropRule_30 : decode cX0_dropRule 30 = .ok (.iload_n 2, 1) := by decide +kernel
theorem dX0_dropRule_31 : decode cX0_dropRule 31 = .ok (.invokevirtual 38, 3) := by decide +kernel
theorem dX0_dropRule_34 : decode cX0_dropRule 34 = .ok (.aload_n 0, 1) := by decide +kernel
theorem dX0_dropRule_35 : decode cX0_dropRule 35 = .ok (.iload_n 2, 1) := by decide +kernel
theorem dX0_dropRule_36 : decode cX0_dropRule 36 = .ok (.iconst 1, 1) := by decide +kernel
theorem dX0_dropRule_37 : decode cX0_dropRule 37 = .ok (.iadd, 1) := by decide +kernel
theorem dX0_dropRule_38 : decode cX0_dropRule 38 = .ok (.invokevirtual 38, 3) := by decide +kernel
theorem dX0_dropRule_41 : decode cX0_dropRule 41 = .ok (.invokevirtual 42, 3) := by decide +kernel
theorem dX0_dropRule_44 : decode cX0_dropRule 44 = .ok (.iinc 2 1, 3) := by decide +kernel
theorem dX0_dropRule_47 : decode cX0_dropRule 47 = .ok (.goto (-28), 3) := by decide +kernel
theorem dX0_dropRule_50 : decode cX0_dropRule 50 = .ok (.aload_n 0, 1) := by decide +kernel
theorem dX0_dropRule_51 : decode cX0_dropRule 51 = .ok (.dup, 1) := by decide +kernel
theorem dX0_dropRule_52 : decode cX0_dropRule 52 = .ok (.getfield 22, 3) := by decide +kernel
theorem dX0_dropRule_55 : decode cX0_dropRule 55 = .ok (.iconst 1, 1) := by decide +kernel
theorem dX0_dropRule_56 : decode cX0_dropRule 56 = .ok (.isub, 1) := by decide +kernel
theorem dX0_dropRule_57 : decode cX0_dropRule 57 = .ok (.putfield 22, 3) := by decide +kernel
theorem dX0_dropRule_60 : decode cX0_dropRule 60 = .ok (.return_, 1) := by decide +kernel
theorem dX0_waiveRule_0 : decode cX0_waiveRule 0 = .ok (.aload_n 0, 1) := by decide +kernel
theorem dX0_waiveRule_1 : decode cX0_waiveRule 1 = .ok (.iload_n 1, 1) := by decide +kernel
theorem dX0_waiveRule_2 : decode cX0_waiveRule 2 = .ok (.invokevirtual 38, 3) := by decide +kernel
theorem dX0_waiveRule_5 : decode cX0_waiveRule 5 = .ok (.aload_n 0, 1) := by decide +kernel
theorem dX0_waiveRule_6 : decode cX0_waiveRule 6 = .ok (.getfield 29, 3) := by decide +kernel
theorem dX0_waiveRule_9 : decode cX0_waiveRule 9 = .ok (.iload_n 2, 1) := by decide +kernel
theorem dX0_waiveRule_10 : decode cX0_waiveRule 10 = .ok (.iadd, 1) := by decide +kernel
theorem dX0_waiveRule_11 : decode cX0_waiveRule 11 = .ok (.putfield 53, 3) := by decide +kernel
theorem dX0_waiveRule_14 : decode cX0_waiveRule 14 = .ok (.aload_n 0, 1) := by decide +kernel
theorem dX0_waiveRule_15 : decode cX0_waiveRule 15 = .ok (.getfield 29, 3) := by decide +kernel
theorem dX0_waiveRule_18 : decode cX0_waiveRule 18 = .ok (.iload_n 2, 1) := by decide +kernel
theorem dX0_waiveRule_19 : decode cX0_waiveRule 19 = .ok (.iadd, 1) := by decide +kernel
theorem dX0_waiveRule_20 : decode cX0_waiveRule 20 = .ok (.ireturn, 1) := by decide +kernel
theorem dX0_daysWaived_0 : decode cX0_daysWaived 0 = .ok (.iconst 0, 1) := by decide +kernel
theorem dX0_daysWaived_1 : decode cX0_daysWaived 1 = .ok (.aload_n 0, 1) := by decide +kernel
theorem dX0_daysWaived_2 : decode cX0_daysWaived 2 = .ok (.iload_n 1, 1) := by decide +kernel
theorem dX0_daysWaived_3 : decode cX0_daysWaived 3 = .ok (.invokevirtual 38, 3) := by decide +kernel
theorem dX0_daysWaived_6 : decode cX0_daysWaived 6 = .ok (.getfield 53, 3) := by decide +kernel
theorem dX0_daysWaived_9 : decode cX0_daysWaived 9 = .ok (.aload_n 0, 1) := by decide +kernel
theorem dX0_daysWaived_10 : decode cX0_daysWaived 10 = .ok (.getfield 29, 3) := by decide +kernel
theorem dX0_daysWaived_13 : decode cX0_daysWaived 13 = .ok (.isub, 1) := by decide +kernel
theorem dX0_daysWaived_14 : decode cX0_daysWaived 14 = .ok (.invokestatic 56, 3) := by decide +kernel
theorem dX0_daysWaived_17 : decode cX0_daysWaived 17 = .ok (.ireturn, 1) := by decide +kernel
theorem dX0_rulesInForce_0 : decode cX0_rulesInForce 0 = .ok (.iconst 0, 1) := by decide +kernel
theorem dX0_rulesInForce_1 : decode cX0_rulesInForce 1 = .ok (.istore_n 2, 1) := by decide +kernel
theorem dX0_rulesInForce_2 : decode cX0_rulesInForce 2 = .ok (.iconst 0, 1) := by decide +kernel
theorem dX0_rulesInForce_3 : decode cX0_rulesInForce 3 = .ok (.istore_n 3, 1) := by decide +kernel
theorem dX0_rulesInForce_4 : decode cX0_rulesInForce 4 = .ok (.iload_n 3, 1) := by decide +kernel
theorem dX0_rulesInForce_5 : decode cX0_rulesInForce 5 = .ok (.aload_n 0, 1) := by decide +kernel
theorem dX0_rulesInForce_6 : decode cX0_rulesInForce 6 = .ok (.getfield 22, 3) := by decide +kernel
theorem dX0_rulesInForce_9 : decode cX0_rulesInForce 9 = .ok (.if_icmp .ge 27, 3) := by decide +kernel
theorem dX0_rulesInForce_12 : decode cX0_rulesInForce 12 = .ok (.aload_n 0, 1) := by decide +kernel
theorem dX0_rulesInForce_13 : decode cX0_rulesInForce 13 = .ok (.iload_n 3, 1) := by decide +kernel
theorem dX0_rulesInForce_14 : decode cX0_rulesInForce 14 = .ok (.invokevirtual 38, 3) := by decide +kernel
theorem dX0_rulesInForce_17 : decode cX0_rulesInForce 17 = .ok (.getfield 53, 3) := by decide +kernel
theorem dX0_rulesInForce_20 : decode cX0_rulesInForce 20 = .ok (.iload_n 1, 1) := by decide +kernel
theorem dX0_rulesInForce_21 : decode cX0_rulesInForce 21 = .ok (.if_icmp .gt 9, 3) := by decide +kernel
theorem dX0_rulesInForce_24 : decode cX0_rulesInForce 24 = .ok (.iload_n 2, 1) := by decide +kernel
theorem dX0_rulesInForce_25 : decode cX0_rulesInForce 25 = .ok (.iconst 1, 1) := by decide +kernel
theorem dX0_rulesInForce_26 : decode cX0_rulesInForce 26 = .ok (.iload_n 3, 1) := by decide +kernel
theorem dX0_rulesInForce_27 : decode cX0_rulesInForce 27 = .ok (.ishl, 1) := by decide +kernel
theorem dX0_rulesInForce_28 : decode cX0_rulesInForce 28 = .ok (.ior, 1) := by decide +kernel
theorem dX0_rulesInForce_29 : decode cX0_rulesInForce 29 = .ok (.istore_n 2, 1) := by decide +kernel
theorem dX0_rulesInForce_30 : decode cX0_rulesInForce 30 = .ok (.iinc 3 1, 3) := by decide +kernel
theorem dX0_rulesInForce_33 : decode cX0_rulesInForce 33 = .ok (.goto (-29), 3) := by decide +kernel
theorem dX0_rulesInForce_36 : decode cX0_rulesInForce 36 = .ok (.iload_n 2, 1) := by decide +kernel
theorem dX0_rulesInForce_37 : decode cX0_rulesInForce 37 = .ok (.ireturn, 1) := by decide +kernel
theorem dX0_rulesBroken_0 : decode cX0_rulesBroken 0 = .ok (.iconst 0, 1) := by decide +kernel
theorem dX0_rulesBroken_1 : decode cX0_rulesBroken 1 = .ok (.istore_n 3, 1) := by decide +kernel
theorem dX0_rulesBroken_2 : decode cX0_rulesBroken 2 = .ok (.iconst 0, 1) := by decide +kernel
theorem dX0_rulesBroken_3 : decode cX0_rulesBroken 3 = .ok (.istore 4, 2) := by decide +kernel
theorem dX0_rulesBroken_5 : decode cX0_rulesBroken 5 = .ok (.iload 4, 2) := by decide +kernel
theorem dX0_rulesBroken_7 : decode cX0_rulesBroken 7 = .ok (.aload_n 0, 1) := by decide +kernel
theorem dX0_rulesBroken_8 : decode cX0_rulesBroken 8 = .ok (.getfield 22, 3) := by decide +kernel
theorem dX0_rulesBroken_11 : decode cX0_rulesBroken 11 = .ok (.if_icmp .ge 42, 3) := by decide +kernel
theorem dX0_rulesBroken_14 : decode cX0_rulesBroken 14 = .ok (.aload_n 0, 1) := by decide +kernel
theorem dX0_rulesBroken_15 : decode cX0_rulesBroken 15 = .ok (.iload 4, 2) := by decide +kernel
theorem dX0_rulesBroken_17 : decode cX0_rulesBroken 17 = .ok (.invokevirtual 38, 3) := by decide +kernel
theorem dX0_rulesBroken_20 : decode cX0_rulesBroken 20 = .ok (.astore 5, 2) := by decide +kernel
theorem dX0_rulesBroken_22 : decode cX0_rulesBroken 22 = .ok (.aload 5, 2) := by decide +kernel
theorem dX0_rulesBroken_24 : decode cX0_rulesBroken 24 = .ok (.getfield 53, 3) := by decide +kernel
theorem dX0_rulesBroken_27 : decode cX0_rulesBroken 27 = .ok (.iload_n 2, 1) := by decide +kernel
theorem dX0_rulesBroken_28 : decode cX0_rulesBroken 28 = .ok (.if_icmp .gt 19, 3) := by decide +kernel
theorem dX0_rulesBroken_31 : decode cX0_rulesBroken 31 = .ok (.aload 5, 2) := by decide +kernel
theorem dX0_rulesBroken_33 : decode cX0_rulesBroken 33 = .ok (.iload_n 1, 1) := by decide +kernel
theorem dX0_rulesBroken_34 : decode cX0_rulesBroken 34 = .ok (.invokevirtual 62, 3) := by decide +kernel
theorem dX0_rulesBroken_37 : decode cX0_rulesBroken 37 = .ok (.ifCond .ne 10, 3) := by decide +kernel
theorem dX0_rulesBroken_40 : decode cX0_rulesBroken 40 = .ok (.iload_n 3, 1) := by decide +kernel
theorem dX0_rulesBroken_41 : decode cX0_rulesBroken 41 = .ok (.iconst 1, 1) := by decide +kernel
theorem dX0_rulesBroken_42 : decode cX0_rulesBroken 42 = .ok (.iload 4, 2) := by decide +kernel
theorem dX0_rulesBroken_44 : decode cX0_rulesBroken 44 = .ok (.ishl, 1) := by decide +kernel
theorem dX0_rulesBroken_45 : decode cX0_rulesBroken 45 = .ok (.ior, 1) := by decide +kernel
theorem dX0_rulesBroken_46 : decode cX0_rulesBroken 46 = .ok (.istore_n 3, 1) := by decide +kernel
theorem dX0_rulesBroken_47 : decode cX0_rulesBroken 47 = .ok (.iinc 4 1, 3) := by decide +kernel
theorem dX0_rulesBroken_50 : decode cX0_rulesBroken 50 = .ok (.goto (-45), 3) := by decide +kernel
theorem dX0_rulesBroken_53 : decode cX0_rulesBroken 53 = .ok (.iload_n 3, 1) := by decide +kernel
theorem dX0_rulesBroken_54 : decode cX0_rulesBroken 54 = .ok (.ireturn, 1) := by decide +kernel
theorem dX0_rulesLost_0 : decode cX0_rulesLost 0 = .ok (.iconst 0, 1) := by decide +kernel
theorem dX0_rulesLost_1 : decode cX0_rulesLost 1 = .ok (.istore 4, 2) := by decide +kernel
theorem dX0_rulesLost_3 : decode cX0_rulesLost 3 = .ok (.iconst 0, 1) := by decide +kernel
theorem dX0_rulesLost_4 : decode cX0_rulesLost 4 = .ok (.istore 5, 2) := by decide +kernel
theorem dX0_rulesLost_6 : decode cX0_rulesLost 6 = .ok (.iload 5, 2) := by decide +kernel
theorem dX0_rulesLost_8 : decode cX0_rulesLost 8 = .ok (.aload_n 0, 1) := by decide +kernel
theorem dX0_rulesLost_9 : decode cX0_rulesLost 9 = .ok (.getfield 22, 3) := by decide +kernel
theorem dX0_rulesLost_12 : decode cX0_rulesLost 12 = .ok (.if_icmp .ge 41, 3) := by decide +kernel
theorem dX0_rulesLost_15 : decode cX0_rulesLost 15 = .ok (.iload_n 1, 1) := by decide +kernel
theorem dX0_rulesLost_16 : decode cX0_rulesLost 16 = .ok (.iload 5, 2) := by decide +kernel
theorem dX0_rulesLost_18 : decode cX0_rulesLost 18 = .ok (.ishr, 1) := by decide +kernel
theorem dX0_rulesLost_19 : decode cX0_rulesLost 19 = .ok (.iconst 1, 1) := by decide +kernel
theorem dX0_rulesLost_20 : decode cX0_rulesLost 20 = .ok (.iand, 1) := by decide +kernel
theorem dX0_rulesLost_21 : decode cX0_rulesLost 21 = .ok (.ifCond .eq 26, 3) := by decide +kernel
theorem dX0_rulesLost_24 : decode cX0_rulesLost 24 = .ok (.aload_n 0, 1) := by decide +kernel
theorem dX0_rulesLost_25 : decode cX0_rulesLost 25 = .ok (.iload 5, 2) := by decide +kernel
theorem dX0_rulesLost_27 : decode cX0_rulesLost 27 = .ok (.invokevirtual 38, 3) := by decide +kernel
theorem dX0_rulesLost_30 : decode cX0_rulesLost 30 = .ok (.iload_n 2, 1) := by decide +kernel
theorem dX0_rulesLost_31 : decode cX0_rulesLost 31 = .ok (.iload_n 3, 1) := by decide +kernel
theorem dX0_rulesLost_32 : decode cX0_rulesLost 32 = .ok (.invokevirtual 66, 3) := by decide +kernel
theorem dX0_rulesLost_35 : decode cX0_rulesLost 35 = .ok (.ifCond .eq 12, 3) := by decide +kernel
theorem dX0_rulesLost_38 : decode cX0_rulesLost 38 = .ok (.iload 4, 2) := by decide +kernel
theorem dX0_rulesLost_40 : decode cX0_rulesLost 40 = .ok (.iconst 1, 1) := by decide +kernel
theorem dX0_rulesLost_41 : decode cX0_rulesLost 41 = .ok (.iload 5, 2) := by decide +kernel
theorem dX0_rulesLost_43 : decode cX0_rulesLost 43 = .ok (.ishl, 1) := by decide +kernel
theorem dX0_rulesLost_44 : decode cX0_rulesLost 44 = .ok (.ior, 1) := by decide +kernel
theorem dX0_rulesLost_45 : decode cX0_rulesLost 45 = .ok (.istore 4, 2) := by decide +kernel
theorem dX0_rulesLost_47 : decode cX0_rulesLost 47 = .ok (.iinc 5 1, 3) := by decide +kernel
theorem dX0_rulesLost_50 : decode cX0_rulesLost 50 = .ok (.goto (-44), 3) := by decide +kernel
theorem dX0_rulesLost_53 : decode cX0_rulesLost 53 = .ok (.iload 4, 2) := by decide +kernel
theorem dX0_rulesLost_55 : decode cX0_rulesLost 55 = .ok (.ireturn, 1) := by decide +kernel
theorem dX0_pricesOf_0 : decode cX0_pricesOf 0 = .ok (.iconst 0, 1) := by decide +kernel
theorem dX0_pricesOf_1 : decode cX0_pricesOf 1 = .ok (.istore_n 2, 1) := by decide +kernel
theorem dX0_pricesOf_2 : decode cX0_pricesOf 2 = .ok (.iconst 0, 1) := by decide +kernel
theorem dX0_pricesOf_3 : decode cX0_pricesOf 3 = .ok (.istore_n 3, 1) := by decide +kernel
theorem dX0_pricesOf_4 : decode cX0_pricesOf 4 = .ok (.iload_n 3, 1) := by decide +kernel
theorem dX0_pricesOf_5 : decode cX0_pricesOf 5 = .ok (.aload_n 0, 1) := by decide +kernel
theorem dX0_pricesOf_6 : decode cX0_pricesOf 6 = .ok (.getfield 22, 3) := by decide +kernel
theorem dX0_pricesOf_9 : decode cX0_pricesOf 9 = .ok (.if_icmp .ge 28, 3) := by decide +kernel
theorem dX0_pricesOf_12 : decode cX0_pricesOf 12 = .ok (.iload_n 1, 1) := by decide +kernel
theorem dX0_pricesOf_13 : decode cX0_pricesOf 13 = .ok (.iload_n 3, 1) := by decide +kernel
theorem dX0_pricesOf_14 : decode cX0_pricesOf 14 = .ok (.ishr, 1) := by decide +kernel
theorem dX0_pricesOf_15 : decode cX0_pricesOf 15 = .ok (.iconst 1, 1) := by decide +kernel
theorem dX0_pricesOf_16 : decode cX0_pricesOf 16 = .ok (.iand, 1) := by decide +kernel
theorem dX0_pricesOf_17 : decode cX0_pricesOf 17 = .ok (.ifCond .eq 14, 3) := by decide +kernel
theorem dX0_pricesOf_20 : decode cX0_pricesOf 20 = .ok (.iload_n 2, 1) := by decide +kernel
theorem dX0_pricesOf_21 : decode cX0_pricesOf 21 = .ok (.aload_n 0, 1) := by decide +kernel
theorem dX0_pricesOf_22 : decode cX0_pricesOf 22 = .ok (.iload_n 3, 1) := by decide +kernel
theorem dX0_pricesOf_23 : decode cX0_pricesOf 23 = .ok (.invokevirtual 38, 3) := by decide +kernel
theorem dX0_pricesOf_26 : decode cX0_pricesOf 26 = .ok (.getfield 70, 3) := by decide +kernel
theorem dX0_pricesOf_29 : decode cX0_pricesOf 29 = .ok (.iadd, 1) := by decide +kernel
theorem dX0_pricesOf_30 : decode cX0_pricesOf 30 = .ok (.istore_n 2, 1) := by decide +kernel
theorem dX0_pricesOf_31 : decode cX0_pricesOf 31 = .ok (.iinc 3 1, 3) := by decide +kernel
theorem dX0_pricesOf_34 : decode cX0_pricesOf 34 = .ok (.goto (-30), 3) := by decide +kernel
theorem dX0_pricesOf_37 : decode cX0_pricesOf 37 = .ok (.iload_n 2, 1) := by decide +kernel
theorem dX0_pricesOf_38 : decode cX0_pricesOf 38 = .ok (.ireturn, 1) := by decide +kernel
theorem dX0_nightIn_0 : decode cX0_nightIn 0 = .ok (.aload_n 0, 1) := by decide +kernel
theorem dX0_nightIn_1 : decode cX0_nightIn 1 = .ok (.aload_n 0, 1) := by decide +kernel
theorem dX0_nightIn_2 : decode cX0_nightIn 2 = .ok (.iload_n 1, 1) := by decide +kernel
theorem dX0_nightIn_3 : decode cX0_nightIn 3 = .ok (.iload_n 2, 1) := by decide +kernel
theorem dX0_nightIn_4 : decode cX0_nightIn 4 = .ok (.invokevirtual 73, 3) := by decide +kernel
theorem dX0_nightIn_7 : decode cX0_nightIn 7 = .ok (.invokevirtual 76, 3) := by decide +kernel
theorem dX0_nightIn_10 : decode cX0_nightIn 10 = .ok (.ireturn, 1) := by decide +kernel
theorem dX0_nightsAhead_0 : decode cX0_nightsAhead 0 = .ok (.iconst 0, 1) := by decide +kernel
theorem dX0_nightsAhead_1 : decode cX0_nightsAhead 1 = .ok (.istore_n 2, 1) := by decide +kernel
theorem dX0_nightsAhead_2 : decode cX0_nightsAhead 2 = .ok (.iconst 0, 1) := by decide +kernel
theorem dX0_nightsAhead_3 : decode cX0_nightsAhead 3 = .ok (.istore_n 3, 1) := by decide +kernel
theorem dX0_nightsAhead_4 : decode cX0_nightsAhead 4 = .ok (.iload_n 3, 1) := by decide +kernel
theorem dX0_nightsAhead_5 : decode cX0_nightsAhead 5 = .ok (.iload_n 1, 1) := by decide +kernel
theorem dX0_nightsAhead_6 : decode cX0_nightsAhead 6 = .ok (.if_icmp .ge 26, 3) := by decide +kernel
theorem dX0_nightsAhead_9 : decode cX0_nightsAhead 9 = .ok (.iload_n 2, 1) := by decide +kernel
theorem dX0_nightsAhead_10 : decode cX0_nightsAhead 10 = .ok (.aload_n 0, 1) := by decide +kernel
theorem dX0_nightsAhead_11 : decode cX0_nightsAhead 11 = .ok (.aload_n 0, 1) := by decide +kernel
theorem dX0_nightsAhead_12 : decode cX0_nightsAhead 12 = .ok (.getfield 26, 3) := by decide +kernel
theorem dX0_nightsAhead_15 : decode cX0_nightsAhead 15 = .ok (.aload_n 0, 1) := by decide +kernel
theorem dX0_nightsAhead_16 : decode cX0_nightsAhead 16 = .ok (.getfield 29, 3) := by decide +kernel
theorem dX0_nightsAhead_19 : decode cX0_nightsAhead 19 = .ok (.iload_n 3, 1) := by decide +kernel
theorem dX0_nightsAhead_20 : decode cX0_nightsAhead 20 = .ok (.iadd, 1) := by decide +kernel
theorem dX0_nightsAhead_21 : decode cX0_nightsAhead 21 = .ok (.invokevirtual 80, 3) := by decide +kernel
theorem dX0_nightsAhead_24 : decode cX0_nightsAhead 24 = .ok (.iadd, 1) := by decide +kernel
theorem dX0_nightsAhead_25 : decode cX0_nightsAhead 25 = .ok (.istore_n 2, 1) := by decide +kernel
theorem dX0_nightsAhead_26 : decode cX0_nightsAhead 26 = .ok (.iinc 3 1, 3) := by decide +kernel
theorem dX0_nightsAhead_29 : decode cX0_nightsAhead 29 = .ok (.goto (-25), 3) := by decide +kernel
theorem dX0_nightsAhead_32 : decode cX0_nightsAhead 32 = .ok (.iload_n 2, 1) := by decide +kernel
theorem dX0_nightsAhead_33 : decode cX0_nightsAhead 33 = .ok (.ireturn, 1) := by decide +kernel
theorem dX0_waysOf_0 : decode cX0_waysOf 0 = .ok (.ldc2_w 83, 3) := by decide +kernel
theorem dX0_waysOf_3 : decode cX0_waysOf 3 = .ok (.lstore_n 2, 1) := by decide +kernel
theorem dX0_waysOf_4 : decode cX0_waysOf 4 = .ok (.iconst 0, 1) := by decide +kernel
theorem dX0_waysOf_5 : decode cX0_waysOf 5 = .ok (.istore 4, 2) := by decide +kernel
theorem dX0_waysOf_7 : decode cX0_waysOf 7 = .ok (.iload 4, 2) := by decide +kernel
theorem dX0_waysOf_9 : decode cX0_waysOf 9 = .ok (.aload_n 0, 1) := by decide +kernel
theorem dX0_waysOf_10 : decode cX0_waysOf 10 = .ok (.getfield 22, 3) := by decide +kernel
theorem dX0_waysOf_13 : decode cX0_waysOf 13 = .ok (.if_icmp .ge 30, 3) := by decide +kernel
theorem dX0_waysOf_16 : decode cX0_waysOf 16 = .ok (.iload_n 1, 1) := by decide +kernel
theorem dX0_waysOf_17 : decode cX0_waysOf 17 = .ok (.iload 4, 2) := by decide +kernel
theorem dX0_waysOf_19 : decode cX0_waysOf 19 = .ok (.ishr, 1) := by decide +kernel
theorem dX0_waysOf_20 : decode cX0_waysOf 20 = .ok (.iconst 1, 1) := by decide +kernel
theorem dX0_waysOf_21 : decode cX0_waysOf 21 = .ok (.iand, 1) := by decide +kernel
theorem dX0_waysOf_22 : decode cX0_waysOf 22 = .ok (.ifCond .eq 15, 3) := by decide +kernel
theorem dX0_waysOf_25 : decode cX0_waysOf 25 = .ok (.lload_n 2, 1) := by decide +kernel
theorem dX0_waysOf_26 : decode cX0_waysOf 26 = .ok (.aload_n 0, 1) := by decide +kernel
theorem dX0_waysOf_27 : decode cX0_waysOf 27 = .ok (.iload 4, 2) := by decide +kernel
theorem dX0_waysOf_29 : decode cX0_waysOf 29 = .ok (.invokevirtual 38, 3) := by decide +kernel
theorem dX0_waysOf_32 : decode cX0_waysOf 32 = .ok (.getfield 85, 3) := by decide +kernel
theorem dX0_waysOf_35 : decode cX0_waysOf 35 = .ok (.land, 1) := by decide +kernel
theorem dX0_waysOf_36 : decode cX0_waysOf 36 = .ok (.lstore_n 2, 1) := by decide +kernel
theorem dX0_waysOf_37 : decode cX0_waysOf 37 = .ok (.iinc 4 1, 3) := by decide +kernel
theorem dX0_waysOf_40 : decode cX0_waysOf 40 = .ok (.goto (-33), 3) := by decide +kernel
theorem dX0_waysOf_43 : decode cX0_waysOf 43 = .ok (.lload_n 2, 1) := by decide +kernel
theorem dX0_waysOf_44 : decode cX0_waysOf 44 = .ok (.lreturn, 1) := by decide +kernel
theorem dX0_peacefulWays_0 : decode cX0_peacefulWays 0 = .ok (.aload_n 0, 1) := by decide +kernel
theorem dX0_peacefulWays_1 : decode cX0_peacefulWays 1 = .ok (.aload_n 0, 1) := by decide +kernel
theorem dX0_peacefulWays_2 : decode cX0_peacefulWays 2 = .ok (.aload_n 0, 1) := by decide +kernel
theorem dX0_peacefulWays_3 : decode cX0_peacefulWays 3 = .ok (.getfield 29, 3) := by decide +kernel
theorem dX0_peacefulWays_6 : decode cX0_peacefulWays 6 = .ok (.invokevirtual 89, 3) := by decide +kernel
theorem dX0_peacefulWays_9 : decode cX0_peacefulWays 9 = .ok (.invokevirtual 92, 3) := by decide +kernel
theorem dX0_peacefulWays_12 : decode cX0_peacefulWays 12 = .ok (.lreturn, 1) := by decide +kernel
theorem dX0_refuser_0 : decode cX0_refuser 0 = .ok (.aload_n 0, 1) := by decide +kernel
theorem dX0_refuser_1 : decode cX0_refuser 1 = .ok (.getfield 26, 3) := by decide +kernel
theorem dX0_refuser_4 : decode cX0_refuser 4 = .ok (.iconst 1, 1) := by decide +kernel
theorem dX0_refuser_5 : decode cX0_refuser 5 = .ok (.iload_n 1, 1) := by decide +kernel
theorem dX0_refuser_6 : decode cX0_refuser 6 = .ok (.ishl, 1) := by decide +kernel
theorem dX0_refuser_7 : decode cX0_refuser 7 = .ok (.ixor, 1) := by decide +kernel
theorem dX0_refuser_8 : decode cX0_refuser 8 = .ok (.istore_n 2, 1) := by decide +kernel
theorem dX0_refuser_9 : decode cX0_refuser 9 = .ok (.iconst 0, 1) := by decide +kernel
theorem dX0_refuser_10 : decode cX0_refuser 10 = .ok (.istore_n 3, 1) := by decide +kernel
theorem dX0_refuser_11 : decode cX0_refuser 11 = .ok (.iload_n 3, 1) := by decide +kernel
theorem dX0_refuser_12 : decode cX0_refuser 12 = .ok (.aload_n 0, 1) := by decide +kernel
theorem dX0_refuser_13 : decode cX0_refuser 13 = .ok (.getfield 22, 3) := by decide +kernel
theorem dX0_refuser_16 : decode cX0_refuser 16 = .ok (.if_icmp .ge 71, 3) := by decide +kernel
theorem dX0_refuser_19 : decode cX0_refuser 19 = .ok (.aload_n 0, 1) := by decide +kernel
theorem dX0_refuser_20 : decode cX0_refuser 20 = .ok (.iload_n 3, 1) := by decide +kernel
theorem dX0_refuser_21 : decode cX0_refuser 21 = .ok (.invokevirtual 38, 3) := by decide +kernel
theorem dX0_refuser_24 : decode cX0_refuser 24 = .ok (.astore 4, 2) := by decide +kernel
theorem dX0_refuser_26 : decode cX0_refuser 26 = .ok (.aload 4, 2) := by decide +kernel
theorem dX0_refuser_28 : decode cX0_refuser 28 = .ok (.getfield 96, 3) := by decide +kernel
theorem dX0_refuser_31 : decode cX0_refuser 31 = .ok (.ifCond .eq 19, 3) := by decide +kernel
theorem dX0_refuser_34 : decode cX0_refuser 34 = .ok (.aload 4, 2) := by decide +kernel
theorem dX0_refuser_36 : decode cX0_refuser 36 = .ok (.getfield 53, 3) := by decide +kernel
theorem dX0_refuser_39 : decode cX0_refuser 39 = .ok (.aload_n 0, 1) := by decide +kernel
theorem dX0_refuser_40 : decode cX0_refuser 40 = .ok (.getfield 29, 3) := by decide +kernel
theorem dX0_refuser_43 : decode cX0_refuser 43 = .ok (.if_icmp .gt 7, 3) := by decide +kernel
theorem dX0_refuser_46 : decode cX0_refuser 46 = .ok (.iconst 1, 1) := by decide +kernel
theorem dX0_refuser_47 : decode cX0_refuser 47 = .ok (.goto 4, 3) := by decide +kernel
theorem dX0_refuser_50 : decode cX0_refuser 50 = .ok (.iconst 0, 1) := by decide +kernel
theorem dX0_refuser_51 : decode cX0_refuser 51 = .ok (.istore 5, 2) := by decide +kernel
theorem dX0_refuser_53 : decode cX0_refuser 53 = .ok (.iload 5, 2) := by decide +kernel
theorem dX0_refuser_55 : decode cX0_refuser 55 = .ok (.ifCond .eq 26, 3) := by decide +kernel
theorem dX0_refuser_58 : decode cX0_refuser 58 = .ok (.aload 4, 2) := by decide +kernel
theorem dX0_refuser_60 : decode cX0_refuser 60 = .ok (.aload_n 0, 1) := by decide +kernel
theorem dX0_refuser_61 : decode cX0_refuser 61 = .ok (.getfield 26, 3) := by decide +kernel
theorem dX0_refuser_64 : decode cX0_refuser 64 = .ok (.invokevirtual 62, 3) := by decide +kernel
theorem dX0_refuser_67 : decode cX0_refuser 67 = .ok (.ifCond .eq 14, 3) := by decide +kernel
theorem dX0_refuser_70 : decode cX0_refuser 70 = .ok (.aload 4, 2) := by decide +kernel
theorem dX0_refuser_72 : decode cX0_refuser 72 = .ok (.iload_n 2, 1) := by decide +kernel
theorem dX0_refuser_73 : decode cX0_refuser 73 = .ok (.invokevirtual 62, 3) := by decide +kernel
theorem dX0_refuser_76 : decode cX0_refuser 76 = .ok (.ifCond .ne 5, 3) := by decide +kernel
theorem dX0_refuser_79 : decode cX0_refuser 79 = .ok (.iload_n 3, 1) := by decide +kernel
theorem dX0_refuser_80 : decode cX0_refuser 80 = .ok (.ireturn, 1) := by decide +kernel
theorem dX0_refuser_81 : decode cX0_refuser 81 = .ok (.iinc 3 1, 3) := by decide +kernel
theorem dX0_refuser_84 : decode cX0_refuser 84 = .ok (.goto (-73), 3) := by decide +kernel
theorem dX0_refuser_87 : decode cX0_refuser 87 = .ok (.iconst (-1), 1) := by decide +kernel
theorem dX0_refuser_88 : decode cX0_refuser 88 = .ok (.ireturn, 1) := by decide +kernel
theorem dX0_canTurn_0 : decode cX0_canTurn 0 = .ok (.aload_n 0, 1) := by decide +kernel
theorem dX0_canTurn_1 : decode cX0_canTurn 1 = .ok (.getfield 26, 3) := by decide +kernel
theorem dX0_canTurn_4 : decode cX0_canTurn 4 = .ok (.iload_n 1, 1) := by decide +kernel
theorem dX0_canTurn_5 : decode cX0_canTurn 5 = .ok (.ishr, 1) := by decide +kernel
theorem dX0_canTurn_6 : decode cX0_canTurn 6 = .ok (.iconst 1, 1) := by decide +kernel
theorem dX0_canTurn_7 : decode cX0_canTurn 7 = .ok (.iand, 1) := by decide +kernel
theorem dX0_canTurn_8 : decode cX0_canTurn 8 = .ok (.ifCond .eq 7, 3) := by decide +kernel
theorem dX0_canTurn_11 : decode cX0_canTurn 11 = .ok (.iconst 1, 1) := by decide +kernel
theorem dX0_canTurn_12 : decode cX0_canTurn 12 = .ok (.goto 4, 3) := by decide +kernel
theorem dX0_canTurn_15 : decode cX0_canTurn 15 = .ok (.iconst 0, 1) := by decide +kernel
theorem dX0_canTurn_16 : decode cX0_canTurn 16 = .ok (.istore_n 3, 1) := by decide +kernel
theorem dX0_canTurn_17 : decode cX0_canTurn 17 = .ok (.iload_n 3, 1) := by decide +kernel
theorem dX0_canTurn_18 : decode cX0_canTurn 18 = .ok (.iload_n 2, 1) := by decide +kernel
theorem dX0_canTurn_19 : decode cX0_canTurn 19 = .ok (.if_icmp .ne 16, 3) := by decide +kernel
theorem dX0_canTurn_22 : decode cX0_canTurn 22 = .ok (.aload_n 0, 1) := by decide +kernel
theorem dX0_canTurn_23 : decode cX0_canTurn 23 = .ok (.iload_n 1, 1) := by decide +kernel
theorem dX0_canTurn_24 : decode cX0_canTurn 24 = .ok (.invokevirtual 100, 3) := by decide +kernel
theorem dX0_canTurn_27 : decode cX0_canTurn 27 = .ok (.iconst (-1), 1) := by decide +kernel
theorem dX0_canTurn_28 : decode cX0_canTurn 28 = .ok (.if_icmp .ne 7, 3) := by decide +kernel
theorem dX0_canTurn_31 : decode cX0_canTurn 31 = .ok (.iconst 1, 1) := by decide +kernel
theorem dX0_canTurn_32 : decode cX0_canTurn 32 = .ok (.goto 4, 3) := by decide +kernel
theorem dX0_canTurn_35 : decode cX0_canTurn 35 = .ok (.iconst 0, 1) := by decide +kernel
theorem dX0_canTurn_36 : decode cX0_canTurn 36 = .ok (.ireturn, 1) := by decide +kernel
theorem dX0_turn_0 : decode cX0_turn 0 = .ok (.aload_n 0, 1) := by decide +kernel
theorem dX0_turn_1 : decode cX0_turn 1 = .ok (.dup, 1) := by decide +kernel
theorem dX0_turn_2 : decode cX0_turn 2 = .ok (.getfield 26, 3) := by decide +kernel
theorem dX0_turn_5 : decode cX0_turn 5 = .ok (.iconst 1, 1) := by decide +kernel
theorem dX0_turn_6 : decode cX0_turn 6 = .ok (.iload_n 1, 1) := by decide +kernel
theorem dX0_turn_7 : decode cX0_turn 7 = .ok (.ishl, 1) := by decide +kernel
theorem dX0_turn_8 : decode cX0_turn 8 = .ok (.ixor, 1) := by decide +kernel
theorem dX0_turn_9 : decode cX0_turn 9 = .ok (.putfield 26, 3) := by decide +kernel
theorem dX0_turn_12 : decode cX0_turn 12 = .ok (.aload_n 0, 1) := by decide +kernel
theorem dX0_turn_13 : decode cX0_turn 13 = .ok (.getfield 26, 3) := by decide +kernel
theorem dX0_turn_16 : decode cX0_turn 16 = .ok (.ireturn, 1) := by decide +kernel
theorem dX0_passNights_0 : decode cX0_passNights 0 = .ok (.iconst 0, 1) := by decide +kernel
theorem dX0_passNights_1 : decode cX0_passNights 1 = .ok (.istore_n 2, 1) := by decide +kernel
theorem dX0_passNights_2 : decode cX0_passNights 2 = .ok (.iconst 0, 1) := by decide +kernel
theorem dX0_passNights_3 : decode cX0_passNights 3 = .ok (.istore_n 3, 1) := by decide +kernel
theorem dX0_passNights_4 : decode cX0_passNights 4 = .ok (.iload_n 3, 1) := by decide +kernel
theorem dX0_passNights_5 : decode cX0_passNights 5 = .ok (.iload_n 1, 1) := by decide +kernel
theorem dX0_passNights_6 : decode cX0_passNights 6 = .ok (.if_icmp .ge 16, 3) := by decide +kernel
theorem dX0_passNights_9 : decode cX0_passNights 9 = .ok (.iload_n 2, 1) := by decide +kernel
theorem dX0_passNights_10 : decode cX0_passNights 10 = .ok (.aload_n 0, 1) := by decide +kernel
theorem dX0_passNights_11 : decode cX0_passNights 11 = .ok (.invokevirtual 103, 3) := by decide +kernel
theorem dX0_passNights_14 : decode cX0_passNights 14 = .ok (.iadd, 1) := by decide +kernel
theorem dX0_passNights_15 : decode cX0_passNights 15 = .ok (.istore_n 2, 1) := by decide +kernel
theorem dX0_passNights_16 : decode cX0_passNights 16 = .ok (.iinc 3 1, 3) := by decide +kernel
theorem dX0_passNights_19 : decode cX0_passNights 19 = .ok (.goto (-15), 3) := by decide +kernel
theorem dX0_passNights_22 : decode cX0_passNights 22 = .ok (.iload_n 2, 1) := by decide +kernel
theorem dX0_passNights_23 : decode cX0_passNights 23 = .ok (.ireturn, 1) := by decide +kernel
theorem dX0_passNight_0 : decode cX0_passNight 0 = .ok (.aload_n 0, 1) := by decide +kernel
theorem dX0_passNight_1 : decode cX0_passNight 1 = .ok (.aload_n 0, 1) := by decide +kernel
theorem dX0_passNight_2 : decode cX0_passNight 2 = .ok (.getfield 26, 3) := by decide +kernel
theorem dX0_passNight_5 : decode cX0_passNight 5 = .ok (.aload_n 0, 1) := by decide +kernel
theorem dX0_passNight_6 : decode cX0_passNight 6 = .ok (.getfield 29, 3) := by decide +kernel
theorem dX0_passNight_9 : decode cX0_passNight 9 = .ok (.invokevirtual 73, 3) := by decide +kernel
theorem dX0_passNight_12 : decode cX0_passNight 12 = .ok (.istore_n 1, 1) := by decide +kernel
theorem dX0_passNight_13 : decode cX0_passNight 13 = .ok (.iconst 0, 1) := by decide +kernel
theorem dX0_passNight_14 : decode cX0_passNight 14 = .ok (.istore_n 2, 1) := by decide +kernel
theorem dX0_passNight_15 : decode cX0_passNight 15 = .ok (.iload_n 2, 1) := by decide +kernel
theorem dX0_passNight_16 : decode cX0_passNight 16 = .ok (.aload_n 0, 1) := by decide +kernel
theorem dX0_passNight_17 : decode cX0_passNight 17 = .ok (.getfield 22, 3) := by decide +kernel
theorem dX0_passNight_20 : decode cX0_passNight 20 = .ok (.if_icmp .ge 38, 3) := by decide +kernel
theorem dX0_passNight_23 : decode cX0_passNight 23 = .ok (.iload_n 1, 1) := by decide +kernel
theorem dX0_passNight_24 : decode cX0_passNight 24 = .ok (.iload_n 2, 1) := by decide +kernel
theorem dX0_passNight_25 : decode cX0_passNight 25 = .ok (.ishr, 1) := by decide +kernel
theorem dX0_passNight_26 : decode cX0_passNight 26 = .ok (.iconst 1, 1) := by decide +kernel
theorem dX0_passNight_27 : decode cX0_passNight 27 = .ok (.iand, 1) := by decide +kernel
theorem dX0_passNight_28 : decode cX0_passNight 28 = .ok (.ifCond .eq 24, 3) := by decide +kernel
theorem dX0_passNight_31 : decode cX0_passNight 31 = .ok (.aload_n 0, 1) := by decide +kernel
theorem dX0_passNight_32 : decode cX0_passNight 32 = .ok (.iload_n 2, 1) := by decide +kernel
theorem dX0_passNight_33 : decode cX0_passNight 33 = .ok (.invokevirtual 38, 3) := by decide +kernel
theorem dX0_passNight_36 : decode cX0_passNight 36 = .ok (.dup, 1) := by decide +kernel
theorem dX0_passNight_37 : decode cX0_passNight 37 = .ok (.getfield 50, 3) := by decide +kernel
theorem dX0_passNight_40 : decode cX0_passNight 40 = .ok (.aload_n 0, 1) := by decide +kernel
theorem dX0_passNight_41 : decode cX0_passNight 41 = .ok (.iload_n 2, 1) := by decide +kernel
theorem dX0_passNight_42 : decode cX0_passNight 42 = .ok (.invokevirtual 38, 3) := by decide +kernel
theorem dX0_passNight_45 : decode cX0_passNight 45 = .ok (.getfield 70, 3) := by decide +kernel
theorem dX0_passNight_48 : decode cX0_passNight 48 = .ok (.iadd, 1) := by decide +kernel
theorem dX0_passNight_49 : decode cX0_passNight 49 = .ok (.putfield 50, 3) := by decide +kernel
theorem dX0_passNight_52 : decode cX0_passNight 52 = .ok (.iinc 2 1, 3) := by decide +kernel
theorem dX0_passNight_55 : decode cX0_passNight 55 = .ok (.goto (-40), 3) := by decide +kernel
theorem dX0_passNight_58 : decode cX0_passNight 58 = .ok (.aload_n 0, 1) := by decide +kernel
theorem dX0_passNight_59 : decode cX0_passNight 59 = .ok (.iload_n 1, 1) := by decide +kernel
theorem dX0_passNight_60 : decode cX0_passNight 60 = .ok (.invokevirtual 76, 3) := by decide +kernel
theorem dX0_passNight_63 : decode cX0_passNight 63 = .ok (.istore_n 2, 1) := by decide +kernel
theorem dX0_passNight_64 : decode cX0_passNight 64 = .ok (.aload_n 0, 1) := by decide +kernel
theorem dX0_passNight_65 : decode cX0_passNight 65 = .ok (.dup, 1) := by decide +kernel
theorem dX0_passNight_66 : decode cX0_passNight 66 = .ok (.getfield 32, 3) := by decide +kernel
theorem dX0_passNight_69 : decode cX0_passNight 69 = .ok (.iload_n 2, 1) := by decide +kernel
theorem dX0_passNight_70 : decode cX0_passNight 70 = .ok (.iadd, 1) := by decide +kernel
theorem dX0_passNight_71 : decode cX0_passNight 71 = .ok (.putfield 32, 3) := by decide +kernel
theorem dX0_passNight_74 : decode cX0_passNight 74 = .ok (.aload_n 0, 1) := by decide +kernel
theorem dX0_passNight_75 : decode cX0_passNight 75 = .ok (.dup, 1) := by decide +kernel
theorem dX0_passNight_76 : decode cX0_passNight 76 = .ok (.getfield 29, 3) := by decide +kernel
theorem dX0_passNight_79 : decode cX0_passNight 79 = .ok (.iconst 1, 1) := by decide +kernel
theorem dX0_passNight_80 : decode cX0_passNight 80 = .ok (.iadd, 1) := by decide +kernel
theorem dX0_passNight_81 : decode cX0_passNight 81 = .ok (.putfield 29, 3) := by decide +kernel
theorem dX0_passNight_84 : decode cX0_passNight 84 = .ok (.iload_n 2, 1) := by decide +kernel
theorem dX0_passNight_85 : decode cX0_passNight 85 = .ok (.ireturn, 1) := by decide +kernel
theorem dX0_accounts_0 : decode cX0_accounts 0 = .ok (.aload_n 0, 1) := by decide +kernel
theorem dX0_accounts_1 : decode cX0_accounts 1 = .ok (.getfield 35, 3) := by decide +kernel
theorem dX0_accounts_4 : decode cX0_accounts 4 = .ok (.istore_n 1, 1) := by decide +kernel
theorem dX0_accounts_5 : decode cX0_accounts 5 = .ok (.iconst 0, 1) := by decide +kernel
theorem dX0_accounts_6 : decode cX0_accounts 6 = .ok (.istore_n 2, 1) := by decide +kernel
theorem dX0_accounts_7 : decode cX0_accounts 7 = .ok (.iload_n 2, 1) := by decide +kernel
theorem dX0_accounts_8 : decode cX0_accounts 8 = .ok (.aload_n 0, 1) := by decide +kernel
theorem dX0_accounts_9 : decode cX0_accounts 9 = .ok (.getfield 22, 3) := by decide +kernel
theorem dX0_accounts_12 : decode cX0_accounts 12 = .ok (.if_icmp .ge 20, 3) := by decide +kernel
theorem dX0_accounts_15 : decode cX0_accounts 15 = .ok (.iload_n 1, 1) := by decide +kernel
theorem dX0_accounts_16 : decode cX0_accounts 16 = .ok (.aload_n 0, 1) := by decide +kernel
theorem dX0_accounts_17 : decode cX0_accounts 17 = .ok (.iload_n 2, 1) := by decide +kernel
theorem dX0_accounts_18 : decode cX0_accounts 18 = .ok (.invokevirtual 38, 3) := by decide +kernel
theorem dX0_accounts_21 : decode cX0_accounts 21 = .ok (.getfield 50, 3) := by decide +kernel
theorem dX0_accounts_24 : decode cX0_accounts 24 = .ok (.iadd, 1) := by decide +kernel
theorem dX0_accounts_25 : decode cX0_accounts 25 = .ok (.istore_n 1, 1) := by decide +kernel
theorem dX0_accounts_26 : decode cX0_accounts 26 = .ok (.iinc 2 1, 3) := by decide +kernel
theorem dX0_accounts_29 : decode cX0_accounts 29 = .ok (.goto (-22), 3) := by decide +kernel
theorem dX0_accounts_32 : decode cX0_accounts 32 = .ok (.iload_n 1, 1) := by decide +kernel
theorem dX0_accounts_33 : decode cX0_accounts 33 = .ok (.ireturn, 1) := by decide +kernel
theorem dX1_init_0 : decode cX1_init 0 = .ok (.aload_n 0, 1) := by decide +kernel
theorem dX1_init_1 : decode cX1_init 1 = .ok (.invokespecial 3, 3) := by decide +kernel
theorem dX1_init_4 : decode cX1_init 4 = .ok (.aload_n 0, 1) := by decide +kernel
theorem dX1_init_5 : decode cX1_init 5 = .ok (.sipush 729, 3) := by decide +kernel
theorem dX1_init_8 : decode cX1_init 8 = .ok (.newarray .int, 2) := by decide +kernel
theorem dX1_init_10 : decode cX1_init 10 = .ok (.putfield 9, 3) := by decide +kernel
theorem dX1_init_13 : decode cX1_init 13 = .ok (.aload_n 0, 1) := by decide +kernel
theorem dX1_init_14 : decode cX1_init 14 = .ok (.bipush 64, 2) := by decide +kernel
theorem dX1_init_16 : decode cX1_init 16 = .ok (.newarray .long, 2) := by decide +kernel
theorem dX1_init_18 : decode cX1_init 18 = .ok (.putfield 15, 3) := by decide +kernel
theorem dX1_init_21 : decode cX1_init 21 = .ok (.return_, 1) := by decide +kernel
theorem dX1_joinAll_0 : decode cX1_joinAll 0 = .ok (.aload_n 0, 1) := by decide +kernel
theorem dX1_joinAll_1 : decode cX1_joinAll 1 = .ok (.iconst 0, 1) := by decide +kernel
theorem dX1_joinAll_2 : decode cX1_joinAll 2 = .ok (.putfield 19, 3) := by decide +kernel
theorem dX1_joinAll_5 : decode cX1_joinAll 5 = .ok (.aload_n 0, 1) := by decide +kernel
theorem dX1_joinAll_6 : decode cX1_joinAll 6 = .ok (.getfield 15, 3) := by decide +kernel
theorem dX1_joinAll_9 : decode cX1_joinAll 9 = .ok (.lconst 0, 1) := by decide +kernel
theorem dX1_joinAll_10 : decode cX1_joinAll 10 = .ok (.invokestatic 23, 3) := by decide +kernel
theorem dX1_joinAll_13 : decode cX1_joinAll 13 = .ok (.iconst 0, 1) := by decide +kernel
theorem dX1_joinAll_14 : decode cX1_joinAll 14 = .ok (.istore_n 3, 1) := by decide +kernel
theorem dX1_joinAll_15 : decode cX1_joinAll 15 = .ok (.iload_n 3, 1) := by decide +kernel
theorem dX1_joinAll_16 : decode cX1_joinAll 16 = .ok (.aload_n 1, 1) := by decide +kernel
theorem dX1_joinAll_17 : decode cX1_joinAll 17 = .ok (.getfield 29, 3) := by decide +kernel
theorem dX1_joinAll_20 : decode cX1_joinAll 20 = .ok (.if_icmp .ge 37, 3) := by decide +kernel
theorem dX1_joinAll_23 : decode cX1_joinAll 23 = .ok (.iload_n 2, 1) := by decide +kernel
theorem dX1_joinAll_24 : decode cX1_joinAll 24 = .ok (.iload_n 3, 1) := by decide +kernel
theorem dX1_joinAll_25 : decode cX1_joinAll 25 = .ok (.ishr, 1) := by decide +kernel
theorem dX1_joinAll_26 : decode cX1_joinAll 26 = .ok (.iconst 1, 1) := by decide +kernel
theorem dX1_joinAll_27 : decode cX1_joinAll 27 = .ok (.iand, 1) := by decide +kernel
theorem dX1_joinAll_28 : decode cX1_joinAll 28 = .ok (.ifCond .eq 23, 3) := by decide +kernel
theorem dX1_joinAll_31 : decode cX1_joinAll 31 = .ok (.aload_n 0, 1) := by decide +kernel
theorem dX1_joinAll_32 : decode cX1_joinAll 32 = .ok (.aload_n 1, 1) := by decide +kernel
theorem dX1_joinAll_33 : decode cX1_joinAll 33 = .ok (.iload_n 3, 1) := by decide +kernel
theorem dX1_joinAll_34 : decode cX1_joinAll 34 = .ok (.invokevirtual 32, 3) := by decide +kernel
theorem dX1_joinAll_37 : decode cX1_joinAll 37 = .ok (.getfield 36, 3) := by decide +kernel
theorem dX1_joinAll_40 : decode cX1_joinAll 40 = .ok (.aload_n 1, 1) := by decide +kernel
theorem dX1_joinAll_41 : decode cX1_joinAll 41 = .ok (.iload_n 3, 1) := by decide +kernel
theorem dX1_joinAll_42 : decode cX1_joinAll 42 = .ok (.invokevirtual 32, 3) := by decide +kernel
theorem dX1_joinAll_45 : decode cX1_joinAll 45 = .ok (.getfield 41, 3) := by decide +kernel
theorem dX1_joinAll_48 : decode cX1_joinAll 48 = .ok (.invokevirtual 44, 3) := by decide +kernel
theorem dX1_joinAll_51 : decode cX1_joinAll 51 = .ok (.iinc 3 1, 3) := by decide +kernel
theorem dX1_joinAll_54 : decode cX1_joinAll 54 = .ok (.goto (-39), 3) := by decide +kernel
theorem dX1_joinAll_57 : decode cX1_joinAll 57 = .ok (.iconst 1, 1) := by decide +kernel
theorem dX1_joinAll_58 : decode cX1_joinAll 58 = .ok (.istore_n 3, 1) := by decide +kernel
theorem dX1_joinAll_59 : decode cX1_joinAll 59 = .ok (.iload_n 3, 1) := by decide +kernel
theorem dX1_joinAll_60 : decode cX1_joinAll 60 = .ok (.aload_n 0, 1) := by decide +kernel
theorem dX1_joinAll_61 : decode cX1_joinAll 61 = .ok (.getfield 19, 3) := by decide +kernel
theorem dX1_joinAll_64 : decode cX1_joinAll 64 = .ok (.if_icmp .ge 23, 3) := by decide +kernel
theorem dX1_joinAll_67 : decode cX1_joinAll 67 = .ok (.iload_n 3, 1) := by decide +kernel
theorem dX1_joinAll_68 : decode cX1_joinAll 68 = .ok (.aload_n 0, 1) := by decide +kernel
theorem dX1_joinAll_69 : decode cX1_joinAll 69 = .ok (.getfield 9, 3) := by decide +kernel
theorem dX1_joinAll_72 : decode cX1_joinAll 72 = .ok (.arraylength, 1) := by decide +kernel
theorem dX1_joinAll_73 : decode cX1_joinAll 73 = .ok (.if_icmp .ge 14, 3) := by decide +kernel
theorem dX1_joinAll_76 : decode cX1_joinAll 76 = .ok (.aload_n 0, 1) := by decide +kernel
theorem dX1_joinAll_77 : decode cX1_joinAll 77 = .ok (.iload_n 3, 1) := by decide +kernel
theorem dX1_joinAll_78 : decode cX1_joinAll 78 = .ok (.invokevirtual 48, 3) := by decide +kernel
theorem dX1_joinAll_81 : decode cX1_joinAll 81 = .ok (.iinc 3 1, 3) := by decide +kernel
theorem dX1_joinAll_84 : decode cX1_joinAll 84 = .ok (.goto (-25), 3) := by decide +kernel
theorem dX1_joinAll_87 : decode cX1_joinAll 87 = .ok (.return_, 1) := by decide +kernel
theorem dX1_hasNothing_0 : decode cX1_hasNothing 0 = .ok (.aload_n 0, 1) := by decide +kernel
theorem dX1_hasNothing_1 : decode cX1_hasNothing 1 = .ok (.getfield 15, 3) := by decide +kernel
theorem dX1_hasNothing_4 : decode cX1_hasNothing 4 = .ok (.arraylength, 1) := by decide +kernel
theorem dX1_hasNothing_5 : decode cX1_hasNothing 5 = .ok (.ifCond .le 20, 3) := by decide +kernel
theorem dX1_hasNothing_8 : decode cX1_hasNothing 8 = .ok (.aload_n 0, 1) := by decide +kernel
theorem dX1_hasNothing_9 : decode cX1_hasNothing 9 = .ok (.getfield 15, 3) := by decide +kernel
theorem dX1_hasNothing_12 : decode cX1_hasNothing 12 = .ok (.iconst 0, 1) := by decide +kernel
theorem dX1_hasNothing_13 : decode cX1_hasNothing 13 = .ok (.laload, 1) := by decide +kernel
theorem dX1_hasNothing_14 : decode cX1_hasNothing 14 = .ok (.lconst 1, 1) := by decide +kernel
theorem dX1_hasNothing_15 : decode cX1_hasNothing 15 = .ok (.land, 1) := by decide +kernel
theorem dX1_hasNothing_16 : decode cX1_hasNothing 16 = .ok (.lconst 0, 1) := by decide +kernel
theorem dX1_hasNothing_17 : decode cX1_hasNothing 17 = .ok (.lcmp, 1) := by decide +kernel
theorem dX1_hasNothing_18 : decode cX1_hasNothing 18 = .ok (.ifCond .eq 7, 3) := by decide +kernel
theorem dX1_hasNothing_21 : decode cX1_hasNothing 21 = .ok (.iconst 1, 1) := by decide +kernel
theorem dX1_hasNothing_22 : decode cX1_hasNothing 22 = .ok (.goto 4, 3) := by decide +kernel
theorem dX1_hasNothing_25 : decode cX1_hasNothing 25 = .ok (.iconst 0, 1) := by decide +kernel
theorem dX1_hasNothing_26 : decode cX1_hasNothing 26 = .ok (.ireturn, 1) := by decide +kernel
theorem dX1_joinWithEarlier_0 : decode cX1_joinWithEarlier 0 = .ok (.iload_n 1, 1) := by decide +kernel
theorem dX1_joinWithEarlier_1 : decode cX1_joinWithEarlier 1 = .ok (.ifCond .lt 21, 3) := by decide +kernel
theorem dX1_joinWithEarlier_4 : decode cX1_joinWithEarlier 4 = .ok (.iload_n 1, 1) := by decide +kernel
theorem dX1_joinWithEarlier_5 : decode cX1_joinWithEarlier 5 = .ok (.aload_n 0, 1) := by decide +kernel
theorem dX1_joinWithEarlier_6 : decode cX1_joinWithEarlier 6 = .ok (.getfield 9, 3) := by decide +kernel
theorem dX1_joinWithEarlier_9 : decode cX1_joinWithEarlier 9 = .ok (.arraylength, 1) := by decide +kernel
theorem dX1_joinWithEarlier_10 : decode cX1_joinWithEarlier 10 = .ok (.if_icmp .ge 12, 3) := by decide +kernel
theorem dX1_joinWithEarlier_13 : decode cX1_joinWithEarlier 13 = .ok (.aload_n 0, 1) := by decide +kernel
theorem dX1_joinWithEarlier_14 : decode cX1_joinWithEarlier 14 = .ok (.getfield 9, 3) := by decide +kernel
theorem dX1_joinWithEarlier_17 : decode cX1_joinWithEarlier 17 = .ok (.iload_n 1, 1) := by decide +kernel
theorem dX1_joinWithEarlier_18 : decode cX1_joinWithEarlier 18 = .ok (.iaload, 1) := by decide +kernel
theorem dX1_joinWithEarlier_19 : decode cX1_joinWithEarlier 19 = .ok (.goto 4, 3) := by decide +kernel
theorem dX1_joinWithEarlier_22 : decode cX1_joinWithEarlier 22 = .ok (.iconst 0, 1) := by decide +kernel
theorem dX1_joinWithEarlier_23 : decode cX1_joinWithEarlier 23 = .ok (.istore_n 2, 1) := by decide +kernel
theorem dX1_joinWithEarlier_24 : decode cX1_joinWithEarlier 24 = .ok (.iconst 0, 1) := by decide +kernel
theorem dX1_joinWithEarlier_25 : decode cX1_joinWithEarlier 25 = .ok (.istore_n 3, 1) := by decide +kernel
theorem dX1_joinWithEarlier_26 : decode cX1_joinWithEarlier 26 = .ok (.iload_n 3, 1) := by decide +kernel
theorem dX1_joinWithEarlier_27 : decode cX1_joinWithEarlier 27 = .ok (.iload_n 1, 1) := by decide +kernel
theorem dX1_joinWithEarlier_28 : decode cX1_joinWithEarlier 28 = .ok (.if_icmp .ge 92, 3) := by decide +kernel
theorem dX1_joinWithEarlier_31 : decode cX1_joinWithEarlier 31 = .ok (.iload_n 3, 1) := by decide +kernel
theorem dX1_joinWithEarlier_32 : decode cX1_joinWithEarlier 32 = .ok (.aload_n 0, 1) := by decide +kernel
theorem dX1_joinWithEarlier_33 : decode cX1_joinWithEarlier 33 = .ok (.getfield 9, 3) := by decide +kernel
theorem dX1_joinWithEarlier_36 : decode cX1_joinWithEarlier 36 = .ok (.arraylength, 1) := by decide +kernel
theorem dX1_joinWithEarlier_37 : decode cX1_joinWithEarlier 37 = .ok (.if_icmp .ge 83, 3) := by decide +kernel
theorem dX1_joinWithEarlier_40 : decode cX1_joinWithEarlier 40 = .ok (.aload_n 0, 1) := by decide +kernel
theorem dX1_joinWithEarlier_41 : decode cX1_joinWithEarlier 41 = .ok (.getfield 9, 3) := by decide +kernel
theorem dX1_joinWithEarlier_44 : decode cX1_joinWithEarlier 44 = .ok (.iload_n 3, 1) := by decide +kernel
theorem dX1_joinWithEarlier_45 : decode cX1_joinWithEarlier 45 = .ok (.iaload, 1) := by decide +kernel
theorem dX1_joinWithEarlier_46 : decode cX1_joinWithEarlier 46 = .ok (.istore 4, 2) := by decide +kernel
theorem dX1_joinWithEarlier_48 : decode cX1_joinWithEarlier 48 = .ok (.iload_n 2, 1) := by decide +kernel
theorem dX1_joinWithEarlier_49 : decode cX1_joinWithEarlier 49 = .ok (.bipush 6, 2) := by decide +kernel
theorem dX1_joinWithEarlier_51 : decode cX1_joinWithEarlier 51 = .ok (.ishr, 1) := by decide +kernel
theorem dX1_joinWithEarlier_52 : decode cX1_joinWithEarlier 52 = .ok (.iload 4, 2) := by decide +kernel
theorem dX1_joinWithEarlier_54 : decode cX1_joinWithEarlier 54 = .ok (.iand, 1) := by decide +kernel
theorem dX1_joinWithEarlier_55 : decode cX1_joinWithEarlier 55 = .ok (.iload_n 2, 1) := by decide +kernel
theorem dX1_joinWithEarlier_56 : decode cX1_joinWithEarlier 56 = .ok (.iload 4, 2) := by decide +kernel
theorem dX1_joinWithEarlier_58 : decode cX1_joinWithEarlier 58 = .ok (.bipush 6, 2) := by decide +kernel
theorem dX1_joinWithEarlier_60 : decode cX1_joinWithEarlier 60 = .ok (.ishr, 1) := by decide +kernel
theorem dX1_joinWithEarlier_61 : decode cX1_joinWithEarlier 61 = .ok (.iand, 1) := by decide +kernel
theorem dX1_joinWithEarlier_62 : decode cX1_joinWithEarlier 62 = .ok (.ior, 1) := by decide +kernel
theorem dX1_joinWithEarlier_63 : decode cX1_joinWithEarlier 63 = .ok (.bipush 63, 2) := by decide +kernel
theorem dX1_joinWithEarlier_65 : decode cX1_joinWithEarlier 65 = .ok (.iand, 1) := by decide +kernel
theorem dX1_joinWithEarlier_66 : decode cX1_joinWithEarlier 66 = .ok (.istore 5, 2) := by decide +kernel
theorem dX1_joinWithEarlier_68 : decode cX1_joinWithEarlier 68 = .ok (.iload 5, 2) := by decide +kernel
theorem dX1_joinWithEarlier_70 : decode cX1_joinWithEarlier 70 = .ok (.ifCond .eq 44, 3) := by decide +kernel
theorem dX1_joinWithEarlier_73 : decode cX1_joinWithEarlier 73 = .ok (.iload 5, 2) := by decide +kernel
theorem dX1_joinWithEarlier_75 : decode cX1_joinWithEarlier 75 = .ok (.iload 5, 2) := by decide +kernel
theorem dX1_joinWithEarlier_77 : decode cX1_joinWithEarlier 77 = .ok (.iconst 1, 1) := by decide +kernel
theorem dX1_joinWithEarlier_78 : decode cX1_joinWithEarlier 78 = .ok (.isub, 1) := by decide +kernel
theorem dX1_joinWithEarlier_79 : decode cX1_joinWithEarlier 79 = .ok (.iand, 1) := by decide +kernel
theorem dX1_joinWithEarlier_80 : decode cX1_joinWithEarlier 80 = .ok (.ifCond .ne 34, 3) := by decide +kernel
theorem dX1_joinWithEarlier_83 : decode cX1_joinWithEarlier 83 = .ok (.iload_n 2, 1) := by decide +kernel
theorem dX1_joinWithEarlier_84 : decode cX1_joinWithEarlier 84 = .ok (.iload 4, 2) := by decide +kernel
theorem dX1_joinWithEarlier_86 : decode cX1_joinWithEarlier 86 = .ok (.ior, 1) := by decide +kernel
theorem dX1_joinWithEarlier_87 : decode cX1_joinWithEarlier 87 = .ok (.iload 5, 2) := by decide +kernel
theorem dX1_joinWithEarlier_89 : decode cX1_joinWithEarlier 89 = .ok (.bipush 6, 2) := by decide +kernel
theorem dX1_joinWithEarlier_91 : decode cX1_joinWithEarlier 91 = .ok (.ishl, 1) := by decide +kernel
theorem dX1_joinWithEarlier_92 : decode cX1_joinWithEarlier 92 = .ok (.iload 5, 2) := by decide +kernel
theorem dX1_joinWithEarlier_94 : decode cX1_joinWithEarlier 94 = .ok (.ior, 1) := by decide +kernel
theorem dX1_joinWithEarlier_95 : decode cX1_joinWithEarlier 95 = .ok (.iconst (-1), 1) := by decide +kernel
theorem dX1_joinWithEarlier_96 : decode cX1_joinWithEarlier 96 = .ok (.ixor, 1) := by decide +kernel
theorem dX1_joinWithEarlier_97 : decode cX1_joinWithEarlier 97 = .ok (.iand, 1) := by decide +kernel
theorem dX1_joinWithEarlier_98 : decode cX1_joinWithEarlier 98 = .ok (.istore 6, 2) := by decide +kernel
theorem dX1_joinWithEarlier_100 : decode cX1_joinWithEarlier 100 = .ok (.aload_n 0, 1) := by decide +kernel
theorem dX1_joinWithEarlier_101 : decode cX1_joinWithEarlier 101 = .ok (.iload 6, 2) := by decide +kernel
theorem dX1_joinWithEarlier_103 : decode cX1_joinWithEarlier 103 = .ok (.bipush 6, 2) := by decide +kernel
theorem dX1_joinWithEarlier_105 : decode cX1_joinWithEarlier 105 = .ok (.ishr, 1) := by decide +kernel
theorem dX1_joinWithEarlier_106 : decode cX1_joinWithEarlier 106 = .ok (.iload 6, 2) := by decide +kernel
theorem dX1_joinWithEarlier_108 : decode cX1_joinWithEarlier 108 = .ok (.bipush 63, 2) := by decide +kernel
theorem dX1_joinWithEarlier_110 : decode cX1_joinWithEarlier 110 = .ok (.iand, 1) := by decide +kernel
theorem dX1_joinWithEarlier_111 : decode cX1_joinWithEarlier 111 = .ok (.invokevirtual 44, 3) := by decide +kernel
theorem dX1_joinWithEarlier_114 : decode cX1_joinWithEarlier 114 = .ok (.iinc 3 1, 3) := by decide +kernel
theorem dX1_joinWithEarlier_117 : decode cX1_joinWithEarlier 117 = .ok (.goto (-91), 3) := by decide +kernel
theorem dX1_joinWithEarlier_120 : decode cX1_joinWithEarlier 120 = .ok (.return_, 1) := by decide +kernel
theorem dX1_add_0 : decode cX1_add 0 = .ok (.iload_n 1, 1) := by decide +kernel
theorem dX1_add_1 : decode cX1_add 1 = .ok (.ifCond .lt 31, 3) := by decide +kernel
theorem dX1_add_4 : decode cX1_add 4 = .ok (.iload_n 1, 1) := by decide +kernel
theorem dX1_add_5 : decode cX1_add 5 = .ok (.aload_n 0, 1) := by decide +kernel
theorem dX1_add_6 : decode cX1_add 6 = .ok (.getfield 15, 3) := by decide +kernel
theorem dX1_add_9 : decode cX1_add 9 = .ok (.arraylength, 1) := by decide +kernel
theorem dX1_add_10 : decode cX1_add 10 = .ok (.if_icmp .ge 22, 3) := by decide +kernel
theorem dX1_add_13 : decode cX1_add 13 = .ok (.aload_n 0, 1) := by decide +kernel
theorem dX1_add_14 : decode cX1_add 14 = .ok (.getfield 19, 3) := by decide +kernel
theorem dX1_add_17 : decode cX1_add 17 = .ok (.ifCond .lt 15, 3) := by decide +kernel
theorem dX1_add_20 : decode cX1_add 20 = .ok (.aload_n 0, 1) := by decide +kernel
theorem dX1_add_21 : decode cX1_add 21 = .ok (.getfield 19, 3) := by decide +kernel
theorem dX1_add_24 : decode cX1_add 24 = .ok (.aload_n 0, 1) := by decide +kernel
theorem dX1_add_25 : decode cX1_add 25 = .ok (.getfield 9, 3) := by decide +kernel
theorem dX1_add_28 : decode cX1_add 28 = .ok (.arraylength, 1) := by decide +kernel
theorem dX1_add_29 : decode cX1_add 29 = .ok (.if_icmp .lt 4, 3) := by decide +kernel
theorem dX1_add_32 : decode cX1_add 32 = .ok (.return_, 1) := by decide +kernel
theorem dX1_add_33 : decode cX1_add 33 = .ok (.aload_n 0, 1) := by decide +kernel
theorem dX1_add_34 : decode cX1_add 34 = .ok (.getfield 15, 3) := by decide +kernel
theorem dX1_add_37 : decode cX1_add 37 = .ok (.iload_n 1, 1) := by decide +kernel
theorem dX1_add_38 : decode cX1_add 38 = .ok (.laload, 1) := by decide +kernel
theorem dX1_add_39 : decode cX1_add 39 = .ok (.iload_n 2, 1) := by decide +kernel
theorem dX1_add_40 : decode cX1_add 40 = .ok (.lushr, 1) := by decide +kernel
theorem dX1_add_41 : decode cX1_add 41 = .ok (.lconst 1, 1) := by decide +kernel
theorem dX1_add_42 : decode cX1_add 42 = .ok (.land, 1) := by decide +kernel
theorem dX1_add_43 : decode cX1_add 43 = .ok (.lconst 0, 1) := by decide +kernel
theorem dX1_add_44 : decode cX1_add 44 = .ok (.lcmp, 1) := by decide +kernel
theorem dX1_add_45 : decode cX1_add 45 = .ok (.ifCond .ne 40, 3) := by decide +kernel
theorem dX1_add_48 : decode cX1_add 48 = .ok (.aload_n 0, 1) := by decide +kernel
theorem dX1_add_49 : decode cX1_add 49 = .ok (.getfield 15, 3) := by decide +kernel
theorem dX1_add_52 : decode cX1_add 52 = .ok (.iload_n 1, 1) := by decide +kernel
theorem dX1_add_53 : decode cX1_add 53 = .ok (.dup2, 1) := by decide +kernel
theorem dX1_add_54 : decode cX1_add 54 = .ok (.laload, 1) := by decide +kernel
theorem dX1_add_55 : decode cX1_add 55 = .ok (.lconst 1, 1) := by decide +kernel
theorem dX1_add_56 : decode cX1_add 56 = .ok (.iload_n 2, 1) := by decide +kernel
theorem dX1_add_57 : decode cX1_add 57 = .ok (.lshl, 1) := by decide +kernel
theorem dX1_add_58 : decode cX1_add 58 = .ok (.lor, 1) := by decide +kernel
theorem dX1_add_59 : decode cX1_add 59 = .ok (.lastore, 1) := by decide +kernel
theorem dX1_add_60 : decode cX1_add 60 = .ok (.aload_n 0, 1) := by decide +kernel
theorem dX1_add_61 : decode cX1_add 61 = .ok (.getfield 9, 3) := by decide +kernel
theorem dX1_add_64 : decode cX1_add 64 = .ok (.aload_n 0, 1) := by decide +kernel
theorem dX1_add_65 : decode cX1_add 65 = .ok (.getfield 19, 3) := by decide +kernel
theorem dX1_add_68 : decode cX1_add 68 = .ok (.iload_n 1, 1) := by decide +kernel
theorem dX1_add_69 : decode cX1_add 69 = .ok (.bipush 6, 2) := by decide +kernel
theorem dX1_add_71 : decode cX1_add 71 = .ok (.ishl, 1) := by decide +kernel
theorem dX1_add_72 : decode cX1_add 72 = .ok (.iload_n 2, 1) := by decide +kernel
theorem dX1_add_73 : decode cX1_add 73 = .ok (.ior, 1) := by decide +kernel
theorem dX1_add_74 : decode cX1_add 74 = .ok (.iastore, 1) := by decide +kernel
theorem dX1_add_75 : decode cX1_add 75 = .ok (.aload_n 0, 1) := by decide +kernel
theorem dX1_add_76 : decode cX1_add 76 = .ok (.dup, 1) := by decide +kernel
theorem dX1_add_77 : decode cX1_add 77 = .ok (.getfield 19, 3) := by decide +kernel
theorem dX1_add_80 : decode cX1_add 80 = .ok (.iconst 1, 1) := by decide +kernel
theorem dX1_add_81 : decode cX1_add 81 = .ok (.iadd, 1) := by decide +kernel
theorem dX1_add_82 : decode cX1_add 82 = .ok (.putfield 19, 3) := by decide +kernel
theorem dX1_add_85 : decode cX1_add 85 = .ok (.return_, 1) := by decide +kernel
theorem dX2_init_0 : decode cX2_init 0 = .ok (.aload_n 0, 1) := by decide +kernel
theorem dX2_init_1 : decode cX2_init 1 = .ok (.invokespecial 3, 3) := by decide +kernel
theorem dX2_init_4 : decode cX2_init 4 = .ok (.return_, 1) := by decide +kernel
theorem dX3_init_0 : decode cX3_init 0 = .ok (.aload_n 0, 1) := by decide +kernel
theorem dX3_init_1 : decode cX3_init 1 = .ok (.invokespecial 3, 3) := by decide +kernel
theorem dX3_init_4 : decode cX3_init 4 = .ok (.aload_n 0, 1) := by decide +kernel
theorem dX3_init_5 : decode cX3_init 5 = .ok (.bipush 6, 2) := by decide +kernel
theorem dX3_init_7 : decode cX3_init 7 = .ok (.anewarray 9, 3) := by decide +kernel
theorem dX3_init_10 : decode cX3_init 10 = .ok (.putfield 11, 3) := by decide +kernel
theorem dX3_init_13 : decode cX3_init 13 = .ok (.iconst 0, 1) := by decide +kernel
theorem dX3_init_14 : decode cX3_init 14 = .ok (.istore_n 1, 1) := by decide +kernel
theorem dX3_init_15 : decode cX3_init 15 = .ok (.iload_n 1, 1) := by decide +kernel
theorem dX3_init_16 : decode cX3_init 16 = .ok (.aload_n 0, 1) := by decide +kernel
theorem dX3_init_17 : decode cX3_init 17 = .ok (.getfield 11, 3) := by decide +kernel
theorem dX3_init_20 : decode cX3_init 20 = .ok (.arraylength, 1) := by decide +kernel
theorem dX3_init_21 : decode cX3_init 21 = .ok (.if_icmp .ge 22, 3) := by decide +kernel
theorem dX3_init_24 : decode cX3_init 24 = .ok (.aload_n 0, 1) := by decide +kernel
theorem dX3_init_25 : decode cX3_init 25 = .ok (.getfield 11, 3) := by decide +kernel
theorem dX3_init_28 : decode cX3_init 28 = .ok (.iload_n 1, 1) := by decide +kernel
theorem dX3_init_29 : decode cX3_init 29 = .ok (.new 9, 3) := by decide +kernel
theorem dX3_init_32 : decode cX3_init 32 = .ok (.dup, 1) := by decide +kernel
theorem dX3_init_33 : decode cX3_init 33 = .ok (.invokespecial 17, 3) := by decide +kernel
theorem dX3_init_36 : decode cX3_init 36 = .ok (.aastore, 1) := by decide +kernel
theorem dX3_init_37 : decode cX3_init 37 = .ok (.iinc 1 1, 3) := by decide +kernel
theorem dX3_init_40 : decode cX3_init 40 = .ok (.goto (-25), 3) := by decide +kernel
theorem dX3_init_43 : decode cX3_init 43 = .ok (.aload_n 0, 1) := by decide +kernel
theorem dX3_init_44 : decode cX3_init 44 = .ok (.new 9, 3) := by decide +kernel
theorem dX3_init_47 : decode cX3_init 47 = .ok (.dup, 1) := by decide +kernel
theorem dX3_init_48 : decode cX3_init 48 = .ok (.invokespecial 17, 3) := by decide +kernel
theorem dX3_init_51 : decode cX3_init 51 = .ok (.putfield 18, 3) := by decide +kernel
theorem dX3_init_54 : decode cX3_init 54 = .ok (.return_, 1) := by decide +kernel
theorem dX3_place_0 : decode cX3_place 0 = .ok (.aload_n 0, 1) := by decide +kernel
theorem dX3_place_1 : decode cX3_place 1 = .ok (.getfield 22, 3) := by decide +kernel
theorem dX3_place_4 : decode cX3_place 4 = .ok (.iload_n 1, 1) := by decide +kernel
theorem dX3_place_5 : decode cX3_place 5 = .ok (.iadd, 1) := by decide +kernel
theorem dX3_place_6 : decode cX3_place 6 = .ok (.bipush 6, 2) := by decide +kernel
theorem dX3_place_8 : decode cX3_place 8 = .ok (.irem, 1) := by decide +kernel
theorem dX3_place_9 : decode cX3_place 9 = .ok (.istore_n 2, 1) := by decide +kernel
theorem dX3_place_10 : decode cX3_place 10 = .ok (.iload_n 2, 1) := by decide +kernel
theorem dX3_place_11 : decode cX3_place 11 = .ok (.ifCond .lt 12, 3) := by decide +kernel
theorem dX3_place_14 : decode cX3_place 14 = .ok (.iload_n 2, 1) := by decide +kernel
theorem dX3_place_15 : decode cX3_place 15 = .ok (.aload_n 0, 1) := by decide +kernel
theorem dX3_place_16 : decode cX3_place 16 = .ok (.getfield 11, 3) := by decide +kernel
theorem dX3_place_19 : decode cX3_place 19 = .ok (.arraylength, 1) := by decide +kernel
theorem dX3_place_20 : decode cX3_place 20 = .ok (.if_icmp .lt 8, 3) := by decide +kernel
theorem dX3_place_23 : decode cX3_place 23 = .ok (.aload_n 0, 1) := by decide +kernel
theorem dX3_place_24 : decode cX3_place 24 = .ok (.getfield 18, 3) := by decide +kernel
theorem dX3_place_27 : decode cX3_place 27 = .ok (.areturn, 1) := by decide +kernel
theorem dX3_place_28 : decode cX3_place 28 = .ok (.aload_n 0, 1) := by decide +kernel
theorem dX3_place_29 : decode cX3_place 29 = .ok (.getfield 11, 3) := by decide +kernel
theorem dX3_place_32 : decode cX3_place 32 = .ok (.iload_n 2, 1) := by decide +kernel
theorem dX3_place_33 : decode cX3_place 33 = .ok (.aaload, 1) := by decide +kernel
theorem dX3_place_34 : decode cX3_place 34 = .ok (.astore_n 3, 1) := by decide +kernel
theorem dX3_place_35 : decode cX3_place 35 = .ok (.aload_n 3, 1) := by decide +kernel
theorem dX3_place_36 : decode cX3_place 36 = .ok (.ifnonnull 10, 3) := by decide +kernel
theorem dX3_place_39 : decode cX3_place 39 = .ok (.aload_n 0, 1) := by decide +kernel
theorem dX3_place_40 : decode cX3_place 40 = .ok (.getfield 18, 3) := by decide +kernel
theorem dX3_place_43 : decode cX3_place 43 = .ok (.goto 4, 3) := by decide +kernel
theorem dX3_place_46 : decode cX3_place 46 = .ok (.aload_n 3, 1) := by decide +kernel
theorem dX3_place_47 : decode cX3_place 47 = .ok (.areturn, 1) := by decide +kernel
theorem dX3_save_0 : decode cX3_save 0 = .ok (.aload_n 0, 1) := by decide +kernel
theorem dX3_save_1 : decode cX3_save 1 = .ok (.aload_n 0, 1) := by decide +kernel
theorem dX3_save_2 : decode cX3_save 2 = .ok (.getfield 26, 3) := by decide +kernel
theorem dX3_save_5 : decode cX3_save 5 = .ok (.invokevirtual 29, 3) := by decide +kernel
theorem dX3_save_8 : decode cX3_save 8 = .ok (.aload_n 1, 1) := by decide +kernel
theorem dX3_save_9 : decode cX3_save 9 = .ok (.invokevirtual 33, 3) := by decide +kernel
theorem dX3_save_12 : decode cX3_save 12 = .ok (.aload_n 0, 1) := by decide +kernel
theorem dX3_save_13 : decode cX3_save 13 = .ok (.getfield 26, 3) := by decide +kernel
theorem dX3_save_16 : decode cX3_save 16 = .ok (.bipush 6, 2) := by decide +kernel
theorem dX3_save_18 : decode cX3_save 18 = .ok (.if_icmp .ge 16, 3) := by decide +kernel
theorem dX3_save_21 : decode cX3_save 21 = .ok (.aload_n 0, 1) := by decide +kernel
theorem dX3_save_22 : decode cX3_save 22 = .ok (.dup, 1) := by decide +kernel
theorem dX3_save_23 : decode cX3_save 23 = .ok (.getfield 26, 3) := by decide +kernel
theorem dX3_save_26 : decode cX3_save 26 = .ok (.iconst 1, 1) := by decide +kernel
theorem dX3_save_27 : decode cX3_save 27 = .ok (.iadd, 1) := by decide +kernel
theorem dX3_save_28 : decode cX3_save 28 = .ok (.putfield 26, 3) := by decide +kernel
theorem dX3_save_31 : decode cX3_save 31 = .ok (.goto 16, 3) := by decide +kernel
theorem dX3_save_34 : decode cX3_save 34 = .ok (.aload_n 0, 1) := by decide +kernel
theorem dX3_save_35 : decode cX3_save 35 = .ok (.aload_n 0, 1) := by decide +kernel
theorem dX3_save_36 : decode cX3_save 36 = .ok (.getfield 22, 3) := by decide +kernel
theorem dX3_save_39 : decode cX3_save 39 = .ok (.iconst 1, 1) := by decide +kernel
theorem dX3_save_40 : decode cX3_save 40 = .ok (.iadd, 1) := by decide +kernel
theorem dX3_save_41 : decode cX3_save 41 = .ok (.bipush 6, 2) := by decide +kernel
theorem dX3_save_43 : decode cX3_save 43 = .ok (.irem, 1) := by decide +kernel
theorem dX3_save_44 : decode cX3_save 44 = .ok (.putfield 22, 3) := by decide +kernel
theorem dX3_save_47 : decode cX3_save 47 = .ok (.return_, 1) := by decide +kernel
theorem dX3_restore_0 : decode cX3_restore 0 = .ok (.aload_n 0, 1) := by decide +kernel
theorem dX3_restore_1 : decode cX3_restore 1 = .ok (.dup, 1) := by decide +kernel
theorem dX3_restore_2 : decode cX3_restore 2 = .ok (.getfield 26, 3) := by decide +kernel
theorem dX3_restore_5 : decode cX3_restore 5 = .ok (.iconst 1, 1) := by decide +kernel
theorem dX3_restore_6 : decode cX3_restore 6 = .ok (.isub, 1) := by decide +kernel
theorem dX3_restore_7 : decode cX3_restore 7 = .ok (.putfield 26, 3) := by decide +kernel
theorem dX3_restore_10 : decode cX3_restore 10 = .ok (.aload_n 1, 1) := by decide +kernel
theorem dX3_restore_11 : decode cX3_restore 11 = .ok (.aload_n 0, 1) := by decide +kernel
theorem dX3_restore_12 : decode cX3_restore 12 = .ok (.aload_n 0, 1) := by decide +kernel
theorem dX3_restore_13 : decode cX3_restore 13 = .ok (.getfield 26, 3) := by decide +kernel
theorem dX3_restore_16 : decode cX3_restore 16 = .ok (.invokevirtual 29, 3) := by decide +kernel
theorem dX3_restore_19 : decode cX3_restore 19 = .ok (.invokevirtual 33, 3) := by decide +kernel
theorem dX3_restore_22 : decode cX3_restore 22 = .ok (.return_, 1) := by decide +kernel
theorem dX4_init_0 : decode cX4_init 0 = .ok (.aload_n 0, 1) := by decide +kernel
theorem dX4_init_1 : decode cX4_init 1 = .ok (.invokespecial 3, 3) := by decide +kernel
theorem dX4_init_4 : decode cX4_init 4 = .ok (.return_, 1) := by decide +kernel
theorem dX4_become_0 : decode cX4_become 0 = .ok (.aload_n 0, 1) := by decide +kernel
theorem dX4_become_1 : decode cX4_become 1 = .ok (.aload_n 1, 1) := by decide +kernel
theorem dX4_become_2 : decode cX4_become 2 = .ok (.getfield 9, 3) := by decide +kernel
theorem dX4_become_5 : decode cX4_become 5 = .ok (.putfield 9, 3) := by decide +kernel
theorem dX4_become_8 : decode cX4_become 8 = .ok (.aload_n 0, 1) := by decide +kernel
theorem dX4_become_9 : decode cX4_become 9 = .ok (.aload_n 1, 1) := by decide +kernel
theorem dX4_become_10 : decode cX4_become 10 = .ok (.getfield 15, 3) := by decide +kernel
theorem dX4_become_13 : decode cX4_become 13 = .ok (.putfield 15, 3) := by decide +kernel
theorem dX4_become_16 : decode cX4_become 16 = .ok (.aload_n 0, 1) := by decide +kernel
theorem dX4_become_17 : decode cX4_become 17 = .ok (.aload_n 1, 1) := by decide +kernel
theorem dX4_become_18 : decode cX4_become 18 = .ok (.getfield 18, 3) := by decide +kernel
theorem dX4_become_21 : decode cX4_become 21 = .ok (.putfield 18, 3) := by decide +kernel
theorem dX4_become_24 : decode cX4_become 24 = .ok (.aload_n 0, 1) := by decide +kernel
theorem dX4_become_25 : decode cX4_become 25 = .ok (.aload_n 1, 1) := by decide +kernel
theorem dX4_become_26 : decode cX4_become 26 = .ok (.getfield 21, 3) := by decide +kernel
theorem dX4_become_29 : decode cX4_become 29 = .ok (.putfield 21, 3) := by decide +kernel
theorem dX4_become_32 : decode cX4_become 32 = .ok (.aload_n 0, 1) := by decide +kernel
theorem dX4_become_33 : decode cX4_become 33 = .ok (.aload_n 1, 1) := by decide +kernel
theorem dX4_become_34 : decode cX4_become 34 = .ok (.getfield 25, 3) := by decide +kernel
theorem dX4_become_37 : decode cX4_become 37 = .ok (.putfield 25, 3) := by decide +kernel
theorem dX4_become_40 : decode cX4_become 40 = .ok (.aload_n 0, 1) := by decide +kernel
theorem dX4_become_41 : decode cX4_become 41 = .ok (.aload_n 1, 1) := by decide +kernel
theorem dX4_become_42 : decode cX4_become 42 = .ok (.getfield 28, 3) := by decide +kernel
theorem dX4_become_45 : decode cX4_become 45 = .ok (.putfield 28, 3) := by decide +kernel
theorem dX4_become_48 : decode cX4_become 48 = .ok (.aload_n 0, 1) := by decide +kernel
theorem dX4_become_49 : decode cX4_become 49 = .ok (.aload_n 1, 1) := by decide +kernel
theorem dX4_become_50 : decode cX4_become 50 = .ok (.getfield 31, 3) := by decide +kernel
theorem dX4_become_53 : decode cX4_become 53 = .ok (.putfield 31, 3) := by decide +kernel
theorem dX4_become_56 : decode cX4_become 56 = .ok (.return_, 1) := by decide +kernel
theorem dX4_begin_0 : decode cX4_begin 0 = .ok (.aload_n 0, 1) := by decide +kernel
theorem dX4_begin_1 : decode cX4_begin 1 = .ok (.iload_n 2, 1) := by decide +kernel
theorem dX4_begin_2 : decode cX4_begin 2 = .ok (.putfield 9, 3) := by decide +kernel
theorem dX4_begin_5 : decode cX4_begin 5 = .ok (.aload_n 0, 1) := by decide +kernel
theorem dX4_begin_6 : decode cX4_begin 6 = .ok (.iload_n 3, 1) := by decide +kernel
theorem dX4_begin_7 : decode cX4_begin 7 = .ok (.putfield 15, 3) := by decide +kernel
theorem dX4_begin_10 : decode cX4_begin 10 = .ok (.aload_n 0, 1) := by decide +kernel
theorem dX4_begin_11 : decode cX4_begin 11 = .ok (.iload_n 1, 1) := by decide +kernel
theorem dX4_begin_12 : decode cX4_begin 12 = .ok (.putfield 18, 3) := by decide +kernel
theorem dX4_begin_15 : decode cX4_begin 15 = .ok (.aload_n 0, 1) := by decide +kernel
theorem dX4_begin_16 : decode cX4_begin 16 = .ok (.iconst 0, 1) := by decide +kernel
theorem dX4_begin_17 : decode cX4_begin 17 = .ok (.putfield 21, 3) := by decide +kernel
theorem dX4_begin_20 : decode cX4_begin 20 = .ok (.aload_n 0, 1) := by decide +kernel
theorem dX4_begin_21 : decode cX4_begin 21 = .ok (.iconst 0, 1) := by decide +kernel
theorem dX4_begin_22 : decode cX4_begin 22 = .ok (.putfield 25, 3) := by decide +kernel
theorem dX4_begin_25 : decode cX4_begin 25 = .ok (.aload_n 0, 1) := by decide +kernel
theorem dX4_begin_26 : decode cX4_begin 26 = .ok (.iconst 0, 1) := by decide +kernel
theorem dX4_begin_27 : decode cX4_begin 27 = .ok (.putfield 28, 3) := by decide +kernel
theorem dX4_begin_30 : decode cX4_begin 30 = .ok (.aload_n 0, 1) := by decide +kernel
theorem dX4_begin_31 : decode cX4_begin 31 = .ok (.lconst 0, 1) := by decide +kernel
theorem dX4_begin_32 : decode cX4_begin 32 = .ok (.putfield 31, 3) := by decide +kernel
theorem dX4_begin_35 : decode cX4_begin 35 = .ok (.iconst 0, 1) := by decide +kernel
theorem dX4_begin_36 : decode cX4_begin 36 = .ok (.istore 4, 2) := by decide +kernel
theorem dX4_begin_38 : decode cX4_begin 38 = .ok (.iload 4, 2) := by decide +kernel
theorem dX4_begin_40 : decode cX4_begin 40 = .ok (.bipush 64, 2) := by decide +kernel
theorem dX4_begin_42 : decode cX4_begin 42 = .ok (.if_icmp .ge 31, 3) := by decide +kernel
theorem dX4_begin_45 : decode cX4_begin 45 = .ok (.aload_n 0, 1) := by decide +kernel
theorem dX4_begin_46 : decode cX4_begin 46 = .ok (.iload 4, 2) := by decide +kernel
theorem dX4_begin_48 : decode cX4_begin 48 = .ok (.invokevirtual 35, 3) := by decide +kernel
theorem dX4_begin_51 : decode cX4_begin 51 = .ok (.ifCond .eq 16, 3) := by decide +kernel
theorem dX4_begin_54 : decode cX4_begin 54 = .ok (.aload_n 0, 1) := by decide +kernel
theorem dX4_begin_55 : decode cX4_begin 55 = .ok (.dup, 1) := by decide +kernel
theorem dX4_begin_56 : decode cX4_begin 56 = .ok (.getfield 31, 3) := by decide +kernel
theorem dX4_begin_59 : decode cX4_begin 59 = .ok (.lconst 1, 1) := by decide +kernel
theorem dX4_begin_60 : decode cX4_begin 60 = .ok (.iload 4, 2) := by decide +kernel
theorem dX4_begin_62 : decode cX4_begin 62 = .ok (.lshl, 1) := by decide +kernel
theorem dX4_begin_63 : decode cX4_begin 63 = .ok (.lor, 1) := by decide +kernel
theorem dX4_begin_64 : decode cX4_begin 64 = .ok (.putfield 31, 3) := by decide +kernel
theorem dX4_begin_67 : decode cX4_begin 67 = .ok (.iinc 4 1, 3) := by decide +kernel
theorem dX4_begin_70 : decode cX4_begin 70 = .ok (.goto (-32), 3) := by decide +kernel
theorem dX4_begin_73 : decode cX4_begin 73 = .ok (.return_, 1) := by decide +kernel
theorem dX4_holdsOn_0 : decode cX4_holdsOn 0 = .ok (.aload_n 0, 1) := by decide +kernel
theorem dX4_holdsOn_1 : decode cX4_holdsOn 1 = .ok (.getfield 9, 3) := by decide +kernel
theorem dX4_holdsOn_4 : decode cX4_holdsOn 4 = .ok (.iload_n 1, 1) := by decide +kernel
theorem dX4_holdsOn_5 : decode cX4_holdsOn 5 = .ok (.iand, 1) := by decide +kernel
theorem dX4_holdsOn_6 : decode cX4_holdsOn 6 = .ok (.ifCond .ne 14, 3) := by decide +kernel
theorem dX4_holdsOn_9 : decode cX4_holdsOn 9 = .ok (.aload_n 0, 1) := by decide +kernel
theorem dX4_holdsOn_10 : decode cX4_holdsOn 10 = .ok (.getfield 15, 3) := by decide +kernel
theorem dX4_holdsOn_13 : decode cX4_holdsOn 13 = .ok (.iload_n 1, 1) := by decide +kernel
theorem dX4_holdsOn_14 : decode cX4_holdsOn 14 = .ok (.iconst (-1), 1) := by decide +kernel
theorem dX4_holdsOn_15 : decode cX4_holdsOn 15 = .ok (.ixor, 1) := by decide +kernel
theorem dX4_holdsOn_16 : decode cX4_holdsOn 16 = .ok (.iand, 1) := by decide +kernel
theorem dX4_holdsOn_17 : decode cX4_holdsOn 17 = .ok (.ifCond .eq 7, 3) := by decide +kernel
theorem dX4_holdsOn_20 : decode cX4_holdsOn 20 = .ok (.iconst 1, 1) := by decide +kernel
theorem dX4_holdsOn_21 : decode cX4_holdsOn 21 = .ok (.goto 4, 3) := by decide +kernel
theorem dX4_holdsOn_24 : decode cX4_holdsOn 24 = .ok (.iconst 0, 1) := by decide +kernel
theorem dX4_holdsOn_25 : decode cX4_holdsOn 25 = .ok (.ireturn, 1) := by decide +kernel
theorem dX4_hasLostAll_0 : decode cX4_hasLostAll 0 = .ok (.aload_n 0, 1) := by decide +kernel
theorem dX4_hasLostAll_1 : decode cX4_hasLostAll 1 = .ok (.getfield 9, 3) := by decide +kernel
theorem dX4_hasLostAll_4 : decode cX4_hasLostAll 4 = .ok (.iload_n 2, 1) := by decide +kernel
theorem dX4_hasLostAll_5 : decode cX4_hasLostAll 5 = .ok (.iconst (-1), 1) := by decide +kernel
theorem dX4_hasLostAll_6 : decode cX4_hasLostAll 6 = .ok (.ixor, 1) := by decide +kernel
theorem dX4_hasLostAll_7 : decode cX4_hasLostAll 7 = .ok (.iand, 1) := by decide +kernel
theorem dX4_hasLostAll_8 : decode cX4_hasLostAll 8 = .ok (.ifCond .ne 18, 3) := by decide +kernel
theorem dX4_hasLostAll_11 : decode cX4_hasLostAll 11 = .ok (.aload_n 0, 1) := by decide +kernel
theorem dX4_hasLostAll_12 : decode cX4_hasLostAll 12 = .ok (.getfield 15, 3) := by decide +kernel
theorem dX4_hasLostAll_15 : decode cX4_hasLostAll 15 = .ok (.iload_n 1, 1) := by decide +kernel
theorem dX4_hasLostAll_16 : decode cX4_hasLostAll 16 = .ok (.iconst (-1), 1) := by decide +kernel
theorem dX4_hasLostAll_17 : decode cX4_hasLostAll 17 = .ok (.ixor, 1) := by decide +kernel
theorem dX4_hasLostAll_18 : decode cX4_hasLostAll 18 = .ok (.iand, 1) := by decide +kernel
theorem dX4_hasLostAll_19 : decode cX4_hasLostAll 19 = .ok (.ifCond .ne 7, 3) := by decide +kernel
theorem dX4_hasLostAll_22 : decode cX4_hasLostAll 22 = .ok (.iconst 1, 1) := by decide +kernel
theorem dX4_hasLostAll_23 : decode cX4_hasLostAll 23 = .ok (.goto 4, 3) := by decide +kernel
theorem dX4_hasLostAll_26 : decode cX4_hasLostAll 26 = .ok (.iconst 0, 1) := by decide +kernel
theorem dX4_hasLostAll_27 : decode cX4_hasLostAll 27 = .ok (.ireturn, 1) := by decide +kernel
theorem dX5_init_0 : decode cX5_init 0 = .ok (.aload_n 0, 1) := by decide +kernel
theorem dX5_init_1 : decode cX5_init 1 = .ok (.invokespecial 3, 3) := by decide +kernel
theorem dX5_init_4 : decode cX5_init 4 = .ok (.aload_n 0, 1) := by decide +kernel
theorem dX5_init_5 : decode cX5_init 5 = .ok (.sipush 1024, 3) := by decide +kernel
theorem dX5_init_8 : decode cX5_init 8 = .ok (.newarray .long, 2) := by decide +kernel
theorem dX5_init_10 : decode cX5_init 10 = .ok (.putfield 9, 3) := by decide +kernel
theorem dX5_init_13 : decode cX5_init 13 = .ok (.return_, 1) := by decide +kernel
theorem dX5_fill_0 : decode cX5_fill 0 = .ok (.aload_n 0, 1) := by decide +kernel
theorem dX5_fill_1 : decode cX5_fill 1 = .ok (.getfield 9, 3) := by decide +kernel
theorem dX5_fill_4 : decode cX5_fill 4 = .ok (.arraylength, 1) := by decide +kernel
theorem dX5_fill_5 : decode cX5_fill 5 = .ok (.ifCond .le 12, 3) := by decide +kernel
theorem dX5_fill_8 : decode cX5_fill 8 = .ok (.aload_n 0, 1) := by decide +kernel
theorem dX5_fill_9 : decode cX5_fill 9 = .ok (.getfield 9, 3) := by decide +kernel
theorem dX5_fill_12 : decode cX5_fill 12 = .ok (.iconst 0, 1) := by decide +kernel
theorem dX5_fill_13 : decode cX5_fill 13 = .ok (.ldc2_w 15, 3) := by decide +kernel
theorem dX5_fill_16 : decode cX5_fill 16 = .ok (.lastore, 1) := by decide +kernel
theorem dX5_fill_17 : decode cX5_fill 17 = .ok (.iconst 0, 1) := by decide +kernel
theorem dX5_fill_18 : decode cX5_fill 18 = .ok (.istore_n 2, 1) := by decide +kernel
theorem dX5_fill_19 : decode cX5_fill 19 = .ok (.iload_n 2, 1) := by decide +kernel
theorem dX5_fill_20 : decode cX5_fill 20 = .ok (.aload_n 1, 1) := by decide +kernel
theorem dX5_fill_21 : decode cX5_fill 21 = .ok (.getfield 17, 3) := by decide +kernel
theorem dX5_fill_24 : decode cX5_fill 24 = .ok (.if_icmp .ge 64, 3) := by decide +kernel
theorem dX5_fill_27 : decode cX5_fill 27 = .ok (.iconst 1, 1) := by decide +kernel
theorem dX5_fill_28 : decode cX5_fill 28 = .ok (.iload_n 2, 1) := by decide +kernel
theorem dX5_fill_29 : decode cX5_fill 29 = .ok (.ishl, 1) := by decide +kernel
theorem dX5_fill_30 : decode cX5_fill 30 = .ok (.istore_n 3, 1) := by decide +kernel
theorem dX5_fill_31 : decode cX5_fill 31 = .ok (.iconst 0, 1) := by decide +kernel
theorem dX5_fill_32 : decode cX5_fill 32 = .ok (.istore 4, 2) := by decide +kernel
theorem dX5_fill_34 : decode cX5_fill 34 = .ok (.iload 4, 2) := by decide +kernel
theorem dX5_fill_36 : decode cX5_fill 36 = .ok (.iload_n 3, 1) := by decide +kernel
theorem dX5_fill_37 : decode cX5_fill 37 = .ok (.if_icmp .ge 45, 3) := by decide +kernel
theorem dX5_fill_40 : decode cX5_fill 40 = .ok (.iload_n 3, 1) := by decide +kernel
theorem dX5_fill_41 : decode cX5_fill 41 = .ok (.iload 4, 2) := by decide +kernel
theorem dX5_fill_43 : decode cX5_fill 43 = .ok (.iadd, 1) := by decide +kernel
theorem dX5_fill_44 : decode cX5_fill 44 = .ok (.aload_n 0, 1) := by decide +kernel
theorem dX5_fill_45 : decode cX5_fill 45 = .ok (.getfield 9, 3) := by decide +kernel
theorem dX5_fill_48 : decode cX5_fill 48 = .ok (.arraylength, 1) := by decide +kernel
theorem dX5_fill_49 : decode cX5_fill 49 = .ok (.if_icmp .ge 33, 3) := by decide +kernel
theorem dX5_fill_52 : decode cX5_fill 52 = .ok (.aload_n 0, 1) := by decide +kernel
theorem dX5_fill_53 : decode cX5_fill 53 = .ok (.getfield 9, 3) := by decide +kernel
theorem dX5_fill_56 : decode cX5_fill 56 = .ok (.iload_n 3, 1) := by decide +kernel
theorem dX5_fill_57 : decode cX5_fill 57 = .ok (.iload 4, 2) := by decide +kernel
theorem dX5_fill_59 : decode cX5_fill 59 = .ok (.iadd, 1) := by decide +kernel
theorem dX5_fill_60 : decode cX5_fill 60 = .ok (.aload_n 0, 1) := by decide +kernel
theorem dX5_fill_61 : decode cX5_fill 61 = .ok (.iload 4, 2) := by decide +kernel
theorem dX5_fill_63 : decode cX5_fill 63 = .ok (.invokevirtual 23, 3) := by decide +kernel
theorem dX5_fill_66 : decode cX5_fill 66 = .ok (.aload_n 1, 1) := by decide +kernel
theorem dX5_fill_67 : decode cX5_fill 67 = .ok (.iload_n 2, 1) := by decide +kernel
theorem dX5_fill_68 : decode cX5_fill 68 = .ok (.invokevirtual 27, 3) := by decide +kernel
theorem dX5_fill_71 : decode cX5_fill 71 = .ok (.getfield 31, 3) := by decide +kernel
theorem dX5_fill_74 : decode cX5_fill 74 = .ok (.land, 1) := by decide +kernel
theorem dX5_fill_75 : decode cX5_fill 75 = .ok (.lastore, 1) := by decide +kernel
theorem dX5_fill_76 : decode cX5_fill 76 = .ok (.iinc 4 1, 3) := by decide +kernel
theorem dX5_fill_79 : decode cX5_fill 79 = .ok (.goto (-45), 3) := by decide +kernel
theorem dX5_fill_82 : decode cX5_fill 82 = .ok (.iinc 2 1, 3) := by decide +kernel
theorem dX5_fill_85 : decode cX5_fill 85 = .ok (.goto (-66), 3) := by decide +kernel
theorem dX5_fill_88 : decode cX5_fill 88 = .ok (.return_, 1) := by decide +kernel
theorem dX5_of_0 : decode cX5_of 0 = .ok (.iload_n 1, 1) := by decide +kernel
theorem dX5_of_1 : decode cX5_of 1 = .ok (.ifCond .lt 21, 3) := by decide +kernel
theorem dX5_of_4 : decode cX5_of 4 = .ok (.iload_n 1, 1) := by decide +kernel
theorem dX5_of_5 : decode cX5_of 5 = .ok (.aload_n 0, 1) := by decide +kernel
theorem dX5_of_6 : decode cX5_of 6 = .ok (.getfield 9, 3) := by decide +kernel
theorem dX5_of_9 : decode cX5_of 9 = .ok (.arraylength, 1) := by decide +kernel
theorem dX5_of_10 : decode cX5_of 10 = .ok (.if_icmp .ge 12, 3) := by decide +kernel
theorem dX5_of_13 : decode cX5_of 13 = .ok (.aload_n 0, 1) := by decide +kernel
theorem dX5_of_14 : decode cX5_of 14 = .ok (.getfield 9, 3) := by decide +kernel
theorem dX5_of_17 : decode cX5_of 17 = .ok (.iload_n 1, 1) := by decide +kernel
theorem dX5_of_18 : decode cX5_of 18 = .ok (.laload, 1) := by decide +kernel
theorem dX5_of_19 : decode cX5_of 19 = .ok (.goto 4, 3) := by decide +kernel
theorem dX5_of_22 : decode cX5_of 22 = .ok (.lconst 0, 1) := by decide +kernel
theorem dX5_of_23 : decode cX5_of 23 = .ok (.lreturn, 1) := by decide +kernel
theorem dX5_isNarrowClash_0 : decode cX5_isNarrowClash 0 = .ok (.aload_n 0, 1) := by decide +kernel
theorem dX5_isNarrowClash_1 : decode cX5_isNarrowClash 1 = .ok (.iload_n 1, 1) := by decide +kernel
theorem dX5_isNarrowClash_2 : decode cX5_isNarrowClash 2 = .ok (.invokevirtual 23, 3) := by decide +kernel
theorem dX5_isNarrowClash_5 : decode cX5_isNarrowClash 5 = .ok (.lconst 0, 1) := by decide +kernel
theorem dX5_isNarrowClash_6 : decode cX5_isNarrowClash 6 = .ok (.lcmp, 1) := by decide +kernel
theorem dX5_isNarrowClash_7 : decode cX5_isNarrowClash 7 = .ok (.ifCond .eq 5, 3) := by decide +kernel
theorem dX5_isNarrowClash_10 : decode cX5_isNarrowClash 10 = .ok (.iconst 0, 1) := by decide +kernel
theorem dX5_isNarrowClash_11 : decode cX5_isNarrowClash 11 = .ok (.ireturn, 1) := by decide +kernel
theorem dX5_isNarrowClash_12 : decode cX5_isNarrowClash 12 = .ok (.iconst 0, 1) := by decide +kernel
theorem dX5_isNarrowClash_13 : decode cX5_isNarrowClash 13 = .ok (.istore_n 2, 1) := by decide +kernel
theorem dX5_isNarrowClash_14 : decode cX5_isNarrowClash 14 = .ok (.iload_n 2, 1) := by decide +kernel
theorem dX5_isNarrowClash_15 : decode cX5_isNarrowClash 15 = .ok (.bipush 10, 2) := by decide +kernel
theorem dX5_isNarrowClash_17 : decode cX5_isNarrowClash 17 = .ok (.if_icmp .ge 35, 3) := by decide +kernel
theorem dX5_isNarrowClash_20 : decode cX5_isNarrowClash 20 = .ok (.iload_n 1, 1) := by decide +kernel
theorem dX5_isNarrowClash_21 : decode cX5_isNarrowClash 21 = .ok (.iload_n 2, 1) := by decide +kernel
theorem dX5_isNarrowClash_22 : decode cX5_isNarrowClash 22 = .ok (.ishr, 1) := by decide +kernel
theorem dX5_isNarrowClash_23 : decode cX5_isNarrowClash 23 = .ok (.iconst 1, 1) := by decide +kernel
theorem dX5_isNarrowClash_24 : decode cX5_isNarrowClash 24 = .ok (.iand, 1) := by decide +kernel
theorem dX5_isNarrowClash_25 : decode cX5_isNarrowClash 25 = .ok (.ifCond .eq 21, 3) := by decide +kernel
theorem dX5_isNarrowClash_28 : decode cX5_isNarrowClash 28 = .ok (.aload_n 0, 1) := by decide +kernel
theorem dX5_isNarrowClash_29 : decode cX5_isNarrowClash 29 = .ok (.iload_n 1, 1) := by decide +kernel
theorem dX5_isNarrowClash_30 : decode cX5_isNarrowClash 30 = .ok (.iconst 1, 1) := by decide +kernel
theorem dX5_isNarrowClash_31 : decode cX5_isNarrowClash 31 = .ok (.iload_n 2, 1) := by decide +kernel
theorem dX5_isNarrowClash_32 : decode cX5_isNarrowClash 32 = .ok (.ishl, 1) := by decide +kernel
theorem dX5_isNarrowClash_33 : decode cX5_isNarrowClash 33 = .ok (.iconst (-1), 1) := by decide +kernel
theorem dX5_isNarrowClash_34 : decode cX5_isNarrowClash 34 = .ok (.ixor, 1) := by decide +kernel
theorem dX5_isNarrowClash_35 : decode cX5_isNarrowClash 35 = .ok (.iand, 1) := by decide +kernel
theorem dX5_isNarrowClash_36 : decode cX5_isNarrowClash 36 = .ok (.invokevirtual 23, 3) := by decide +kernel
theorem dX5_isNarrowClash_39 : decode cX5_isNarrowClash 39 = .ok (.lconst 0, 1) := by decide +kernel
theorem dX5_isNarrowClash_40 : decode cX5_isNarrowClash 40 = .ok (.lcmp, 1) := by decide +kernel
theorem dX5_isNarrowClash_41 : decode cX5_isNarrowClash 41 = .ok (.ifCond .ne 5, 3) := by decide +kernel
theorem dX5_isNarrowClash_44 : decode cX5_isNarrowClash 44 = .ok (.iconst 0, 1) := by decide +kernel
theorem dX5_isNarrowClash_45 : decode cX5_isNarrowClash 45 = .ok (.ireturn, 1) := by decide +kernel
theorem dX5_isNarrowClash_46 : decode cX5_isNarrowClash 46 = .ok (.iinc 2 1, 3) := by decide +kernel
theorem dX5_isNarrowClash_49 : decode cX5_isNarrowClash 49 = .ok (.goto (-35), 3) := by decide +kernel
theorem dX5_isNarrowClash_52 : decode cX5_isNarrowClash 52 = .ok (.iconst 1, 1) := by decide +kernel
theorem dX5_isNarrowClash_53 : decode cX5_isNarrowClash 53 = .ok (.ireturn, 1) := by decide +kernel
theorem dX6_init_0 : decode cX6_init 0 = .ok (.aload_n 0, 1) := by decide +kernel
theorem dX6_init_1 : decode cX6_init 1 = .ok (.invokespecial 1, 3) := by decide +kernel
theorem dX6_init_4 : decode cX6_init 4 = .ok (.aload_n 0, 1) := by decide +kernel
theorem dX6_init_5 : decode cX6_init 5 = .ok (.new 7, 3) := by decide +kernel
theorem dX6_init_8 : decode cX6_init 8 = .ok (.dup, 1) := by decide +kernel
theorem dX6_init_9 : decode cX6_init 9 = .ok (.invokespecial 9, 3) := by decide +kernel
theorem dX6_init_12 : decode cX6_init 12 = .ok (.putfield 10, 3) := by decide +kernel
theorem dX6_init_15 : decode cX6_init 15 = .ok (.aload_n 0, 1) := by decide +kernel
theorem dX6_init_16 : decode cX6_init 16 = .ok (.new 7, 3) := by decide +kernel
theorem dX6_init_19 : decode cX6_init 19 = .ok (.dup, 1) := by decide +kernel
theorem dX6_init_20 : decode cX6_init 20 = .ok (.invokespecial 9, 3) := by decide +kernel
theorem dX6_init_23 : decode cX6_init 23 = .ok (.putfield 16, 3) := by decide +kernel
theorem dX6_init_26 : decode cX6_init 26 = .ok (.aload_n 0, 1) := by decide +kernel
theorem dX6_init_27 : decode cX6_init 27 = .ok (.iconst 0, 1) := by decide +kernel
theorem dX6_init_28 : decode cX6_init 28 = .ok (.putfield 19, 3) := by decide +kernel
theorem dX6_init_31 : decode cX6_init 31 = .ok (.aload_n 0, 1) := by decide +kernel
theorem dX6_init_32 : decode cX6_init 32 = .ok (.new 23, 3) := by decide +kernel
theorem dX6_init_35 : decode cX6_init 35 = .ok (.dup, 1) := by decide +kernel
theorem dX6_init_36 : decode cX6_init 36 = .ok (.invokespecial 25, 3) := by decide +kernel
theorem dX6_init_39 : decode cX6_init 39 = .ok (.putfield 26, 3) := by decide +kernel
theorem dX6_init_42 : decode cX6_init 42 = .ok (.aload_n 0, 1) := by decide +kernel
theorem dX6_init_43 : decode cX6_init 43 = .ok (.bipush 60, 2) := by decide +kernel
theorem dX6_init_45 : decode cX6_init 45 = .ok (.newarray .int, 2) := by decide +kernel
theorem dX6_init_47 : decode cX6_init 47 = .ok (.putfield 30, 3) := by decide +kernel
theorem dX6_init_50 : decode cX6_init 50 = .ok (.aload_n 0, 1) := by decide +kernel
theorem dX6_init_51 : decode cX6_init 51 = .ok (.iconst 0, 1) := by decide +kernel
theorem dX6_init_52 : decode cX6_init 52 = .ok (.putfield 34, 3) := by decide +kernel
theorem dX6_init_55 : decode cX6_init 55 = .ok (.aload_n 0, 1) := by decide +kernel
theorem dX6_init_56 : decode cX6_init 56 = .ok (.new 38, 3) := by decide +kernel
theorem dX6_init_59 : decode cX6_init 59 = .ok (.dup, 1) := by decide +kernel
theorem dX6_init_60 : decode cX6_init 60 = .ok (.invokespecial 40, 3) := by decide +kernel
theorem dX6_init_63 : decode cX6_init 63 = .ok (.putfield 41, 3) := by decide +kernel
theorem dX6_init_66 : decode cX6_init 66 = .ok (.aload_n 0, 1) := by decide +kernel
theorem dX6_init_67 : decode cX6_init 67 = .ok (.new 45, 3) := by decide +kernel
theorem dX6_init_70 : decode cX6_init 70 = .ok (.dup, 1) := by decide +kernel
theorem dX6_init_71 : decode cX6_init 71 = .ok (.invokespecial 47, 3) := by decide +kernel
theorem dX6_init_74 : decode cX6_init 74 = .ok (.putfield 48, 3) := by decide +kernel
theorem dX6_init_77 : decode cX6_init 77 = .ok (.aload_n 0, 1) := by decide +kernel
theorem dX6_init_78 : decode cX6_init 78 = .ok (.new 52, 3) := by decide +kernel
theorem dX6_init_81 : decode cX6_init 81 = .ok (.dup, 1) := by decide +kernel
theorem dX6_init_82 : decode cX6_init 82 = .ok (.invokespecial 54, 3) := by decide +kernel
theorem dX6_init_85 : decode cX6_init 85 = .ok (.putfield 55, 3) := by decide +kernel
theorem dX6_init_88 : decode cX6_init 88 = .ok (.return_, 1) := by decide +kernel
theorem dX6_make_0 : decode cX6_make 0 = .ok (.iload_n 1, 1) := by decide +kernel
theorem dX6_make_1 : decode cX6_make 1 = .ok (.iconst 1, 1) := by decide +kernel
theorem dX6_make_2 : decode cX6_make 2 = .ok (.if_icmp .lt 9, 3) := by decide +kernel
theorem dX6_make_5 : decode cX6_make 5 = .ok (.iload_n 1, 1) := by decide +kernel
theorem dX6_make_6 : decode cX6_make 6 = .ok (.bipush 9, 2) := by decide +kernel
theorem dX6_make_8 : decode cX6_make 8 = .ok (.if_icmp .le 13, 3) := by decide +kernel
theorem dX6_make_11 : decode cX6_make 11 = .ok (.new 59, 3) := by decide +kernel
theorem dX6_make_14 : decode cX6_make 14 = .ok (.dup, 1) := by decide +kernel
theorem dX6_make_15 : decode cX6_make 15 = .ok (.ldc 61, 2) := by decide +kernel
theorem dX6_make_17 : decode cX6_make 17 = .ok (.invokespecial 63, 3) := by decide +kernel
theorem dX6_make_20 : decode cX6_make 20 = .ok (.athrow, 1) := by decide +kernel
theorem dX6_make_21 : decode cX6_make 21 = .ok (.iload_n 2, 1) := by decide +kernel
theorem dX6_make_22 : decode cX6_make 22 = .ok (.ifCond .lt 19, 3) := by decide +kernel
theorem dX6_make_25 : decode cX6_make 25 = .ok (.iload_n 2, 1) := by decide +kernel
theorem dX6_make_26 : decode cX6_make 26 = .ok (.bipush 63, 2) := by decide +kernel
theorem dX6_make_28 : decode cX6_make 28 = .ok (.if_icmp .gt 13, 3) := by decide +kernel
theorem dX6_make_31 : decode cX6_make 31 = .ok (.iload_n 3, 1) := by decide +kernel
theorem dX6_make_32 : decode cX6_make 32 = .ok (.ifCond .lt 9, 3) := by decide +kernel
theorem dX6_make_35 : decode cX6_make 35 = .ok (.iload_n 3, 1) := by decide +kernel
theorem dX6_make_36 : decode cX6_make 36 = .ok (.bipush 63, 2) := by decide +kernel
theorem dX6_make_38 : decode cX6_make 38 = .ok (.if_icmp .le 13, 3) := by decide +kernel
theorem dX6_make_41 : decode cX6_make 41 = .ok (.new 59, 3) := by decide +kernel
theorem dX6_make_44 : decode cX6_make 44 = .ok (.dup, 1) := by decide +kernel
theorem dX6_make_45 : decode cX6_make 45 = .ok (.ldc 66, 2) := by decide +kernel
theorem dX6_make_47 : decode cX6_make 47 = .ok (.invokespecial 63, 3) := by decide +kernel
theorem dX6_make_50 : decode cX6_make 50 = .ok (.athrow, 1) := by decide +kernel
theorem dX6_make_51 : decode cX6_make 51 = .ok (.iload_n 2, 1) := by decide +kernel
theorem dX6_make_52 : decode cX6_make 52 = .ok (.iload_n 3, 1) := by decide +kernel
theorem dX6_make_53 : decode cX6_make 53 = .ok (.iand, 1) := by decide +kernel
theorem dX6_make_54 : decode cX6_make 54 = .ok (.ifCond .ne 9, 3) := by decide +kernel
theorem dX6_make_57 : decode cX6_make 57 = .ok (.iload_n 2, 1) := by decide +kernel
theorem dX6_make_58 : decode cX6_make 58 = .ok (.iload_n 3, 1) := by decide +kernel
theorem dX6_make_59 : decode cX6_make 59 = .ok (.ior, 1) := by decide +kernel
theorem dX6_make_60 : decode cX6_make 60 = .ok (.ifCond .ne 13, 3) := by decide +kernel
theorem dX6_make_63 : decode cX6_make 63 = .ok (.new 59, 3) := by decide +kernel
theorem dX6_make_66 : decode cX6_make 66 = .ok (.dup, 1) := by decide +kernel
theorem dX6_make_67 : decode cX6_make 67 = .ok (.ldc 68, 2) := by decide +kernel
theorem dX6_make_69 : decode cX6_make 69 = .ok (.invokespecial 63, 3) := by decide +kernel
theorem dX6_make_72 : decode cX6_make 72 = .ok (.athrow, 1) := by decide +kernel
theorem dX6_make_73 : decode cX6_make 73 = .ok (.aload_n 0, 1) := by decide +kernel
theorem dX6_make_74 : decode cX6_make 74 = .ok (.getfield 10, 3) := by decide +kernel
theorem dX6_make_77 : decode cX6_make 77 = .ok (.getfield 70, 3) := by decide +kernel
theorem dX6_make_80 : decode cX6_make 80 = .ok (.bipush 10, 2) := by decide +kernel
theorem dX6_make_82 : decode cX6_make 82 = .ok (.if_icmp .lt 13, 3) := by decide +kernel
theorem dX6_make_85 : decode cX6_make 85 = .ok (.new 73, 3) := by decide +kernel
theorem dX6_make_88 : decode cX6_make 88 = .ok (.dup, 1) := by decide +kernel
theorem dX6_make_89 : decode cX6_make 89 = .ok (.ldc 75, 2) := by decide +kernel
theorem dX6_make_91 : decode cX6_make 91 = .ok (.invokespecial 77, 3) := by decide +kernel
theorem dX6_make_94 : decode cX6_make 94 = .ok (.athrow, 1) := by decide +kernel
theorem dX6_make_95 : decode cX6_make 95 = .ok (.aload_n 0, 1) := by decide +kernel
theorem dX6_make_96 : decode cX6_make 96 = .ok (.getfield 26, 3) := by decide +kernel
theorem dX6_make_99 : decode cX6_make 99 = .ok (.aload_n 0, 1) := by decide +kernel
theorem dX6_make_100 : decode cX6_make 100 = .ok (.getfield 10, 3) := by decide +kernel
theorem dX6_make_103 : decode cX6_make 103 = .ok (.invokevirtual 78, 3) := by decide +kernel
theorem dX6_make_106 : decode cX6_make 106 = .ok (.aload_n 0, 1) := by decide +kernel
theorem dX6_make_107 : decode cX6_make 107 = .ok (.getfield 10, 3) := by decide +kernel
theorem dX6_make_110 : decode cX6_make 110 = .ok (.iload_n 1, 1) := by decide +kernel
theorem dX6_make_111 : decode cX6_make 111 = .ok (.iload_n 2, 1) := by decide +kernel
theorem dX6_make_112 : decode cX6_make 112 = .ok (.iload_n 3, 1) := by decide +kernel
theorem dX6_make_113 : decode cX6_make 113 = .ok (.invokevirtual 82, 3) := by decide +kernel
theorem dX6_make_116 : decode cX6_make 116 = .ok (.ireturn, 1) := by decide +kernel
theorem dX6_withdraw_0 : decode cX6_withdraw 0 = .ok (.aload_n 0, 1) := by decide +kernel
theorem dX6_withdraw_1 : decode cX6_withdraw 1 = .ok (.iload_n 1, 1) := by decide +kernel
theorem dX6_withdraw_2 : decode cX6_withdraw 2 = .ok (.invokevirtual 86, 3) := by decide +kernel
theorem dX6_withdraw_5 : decode cX6_withdraw 5 = .ok (.aload_n 0, 1) := by decide +kernel
theorem dX6_withdraw_6 : decode cX6_withdraw 6 = .ok (.getfield 26, 3) := by decide +kernel
theorem dX6_withdraw_9 : decode cX6_withdraw 9 = .ok (.aload_n 0, 1) := by decide +kernel
theorem dX6_withdraw_10 : decode cX6_withdraw 10 = .ok (.getfield 10, 3) := by decide +kernel
theorem dX6_withdraw_13 : decode cX6_withdraw 13 = .ok (.invokevirtual 78, 3) := by decide +kernel
theorem dX6_withdraw_16 : decode cX6_withdraw 16 = .ok (.aload_n 0, 1) := by decide +kernel
theorem dX6_withdraw_17 : decode cX6_withdraw 17 = .ok (.getfield 10, 3) := by decide +kernel
theorem dX6_withdraw_20 : decode cX6_withdraw 20 = .ok (.iload_n 1, 1) := by decide +kernel
theorem dX6_withdraw_21 : decode cX6_withdraw 21 = .ok (.invokevirtual 90, 3) := by decide +kernel
theorem dX6_withdraw_24 : decode cX6_withdraw 24 = .ok (.aload_n 0, 1) := by decide +kernel
theorem dX6_withdraw_25 : decode cX6_withdraw 25 = .ok (.getfield 10, 3) := by decide +kernel
theorem dX6_withdraw_28 : decode cX6_withdraw 28 = .ok (.getfield 70, 3) := by decide +kernel
theorem dX6_withdraw_31 : decode cX6_withdraw 31 = .ok (.ireturn, 1) := by decide +kernel
theorem dX6_setStrict_0 : decode cX6_setStrict 0 = .ok (.aload_n 0, 1) := by decide +kernel
theorem dX6_setStrict_1 : decode cX6_setStrict 1 = .ok (.iload_n 1, 1) := by decide +kernel
theorem dX6_setStrict_2 : decode cX6_setStrict 2 = .ok (.invokevirtual 86, 3) := by decide +kernel
theorem dX6_setStrict_5 : decode cX6_setStrict 5 = .ok (.aload_n 0, 1) := by decide +kernel
theorem dX6_setStrict_6 : decode cX6_setStrict 6 = .ok (.getfield 26, 3) := by decide +kernel
theorem dX6_setStrict_9 : decode cX6_setStrict 9 = .ok (.aload_n 0, 1) := by decide +kernel
theorem dX6_setStrict_10 : decode cX6_setStrict 10 = .ok (.getfield 10, 3) := by decide +kernel
theorem dX6_setStrict_13 : decode cX6_setStrict 13 = .ok (.invokevirtual 78, 3) := by decide +kernel
theorem dX6_setStrict_16 : decode cX6_setStrict 16 = .ok (.aload_n 0, 1) := by decide +kernel
theorem dX6_setStrict_17 : decode cX6_setStrict 17 = .ok (.getfield 10, 3) := by decide +kernel
theorem dX6_setStrict_20 : decode cX6_setStrict 20 = .ok (.iload_n 1, 1) := by decide +kernel
theorem dX6_setStrict_21 : decode cX6_setStrict 21 = .ok (.invokevirtual 93, 3) := by decide +kernel
theorem dX6_setStrict_24 : decode cX6_setStrict 24 = .ok (.getfield 97, 3) := by decide +kernel
theorem dX6_setStrict_27 : decode cX6_setStrict 27 = .ok (.istore_n 3, 1) := by decide +kernel
theorem dX6_setStrict_28 : decode cX6_setStrict 28 = .ok (.aload_n 0, 1) := by decide +kernel
theorem dX6_setStrict_29 : decode cX6_setStrict 29 = .ok (.getfield 10, 3) := by decide +kernel
theorem dX6_setStrict_32 : decode cX6_setStrict 32 = .ok (.iload_n 1, 1) := by decide +kernel
theorem dX6_setStrict_33 : decode cX6_setStrict 33 = .ok (.invokevirtual 93, 3) := by decide +kernel
theorem dX6_setStrict_36 : decode cX6_setStrict 36 = .ok (.iload_n 2, 1) := by decide +kernel
theorem dX6_setStrict_37 : decode cX6_setStrict 37 = .ok (.putfield 97, 3) := by decide +kernel
theorem dX6_setStrict_40 : decode cX6_setStrict 40 = .ok (.iload_n 3, 1) := by decide +kernel
theorem dX6_setStrict_41 : decode cX6_setStrict 41 = .ok (.ireturn, 1) := by decide +kernel
theorem dX6_waive_0 : decode cX6_waive 0 = .ok (.aload_n 0, 1) := by decide +kernel
theorem dX6_waive_1 : decode cX6_waive 1 = .ok (.iload_n 1, 1) := by decide +kernel
theorem dX6_waive_2 : decode cX6_waive 2 = .ok (.invokevirtual 86, 3) := by decide +kernel
theorem dX6_waive_5 : decode cX6_waive 5 = .ok (.iload_n 2, 1) := by decide +kernel
theorem dX6_waive_6 : decode cX6_waive 6 = .ok (.ifCond .lt 9, 3) := by decide +kernel
theorem dX6_waive_9 : decode cX6_waive 9 = .ok (.iload_n 2, 1) := by decide +kernel
theorem dX6_waive_10 : decode cX6_waive 10 = .ok (.bipush 30, 2) := by decide +kernel
theorem dX6_waive_12 : decode cX6_waive 12 = .ok (.if_icmp .le 13, 3) := by decide +kernel
theorem dX6_waive_15 : decode cX6_waive 15 = .ok (.new 59, 3) := by decide +kernel
theorem dX6_waive_18 : decode cX6_waive 18 = .ok (.dup, 1) := by decide +kernel
theorem dX6_waive_19 : decode cX6_waive 19 = .ok (.ldc 102, 2) := by decide +kernel
theorem dX6_waive_21 : decode cX6_waive 21 = .ok (.invokespecial 63, 3) := by decide +kernel
theorem dX6_waive_24 : decode cX6_waive 24 = .ok (.athrow, 1) := by decide +kernel
theorem dX6_waive_25 : decode cX6_waive 25 = .ok (.aload_n 0, 1) := by decide +kernel
theorem dX6_waive_26 : decode cX6_waive 26 = .ok (.getfield 26, 3) := by decide +kernel
theorem dX6_waive_29 : decode cX6_waive 29 = .ok (.aload_n 0, 1) := by decide +kernel
theorem dX6_waive_30 : decode cX6_waive 30 = .ok (.getfield 10, 3) := by decide +kernel
theorem dX6_waive_33 : decode cX6_waive 33 = .ok (.invokevirtual 78, 3) := by decide +kernel
theorem dX6_waive_36 : decode cX6_waive 36 = .ok (.aload_n 0, 1) := by decide +kernel
theorem dX6_waive_37 : decode cX6_waive 37 = .ok (.getfield 10, 3) := by decide +kernel
theorem dX6_waive_40 : decode cX6_waive 40 = .ok (.iload_n 1, 1) := by decide +kernel
theorem dX6_waive_41 : decode cX6_waive 41 = .ok (.iload_n 2, 1) := by decide +kernel
theorem dX6_waive_42 : decode cX6_waive 42 = .ok (.invokevirtual 104, 3) := by decide +kernel
theorem dX6_waive_45 : decode cX6_waive 45 = .ok (.ireturn, 1) := by decide +kernel
theorem dX6_come_0 : decode cX6_come 0 = .ok (.iload_n 1, 1) := by decide +kernel
theorem dX6_come_1 : decode cX6_come 1 = .ok (.invokestatic 108, 3) := by decide +kernel
theorem dX6_come_4 : decode cX6_come 4 = .ok (.aload_n 0, 1) := by decide +kernel
theorem dX6_come_5 : decode cX6_come 5 = .ok (.getfield 10, 3) := by decide +kernel
theorem dX6_come_8 : decode cX6_come 8 = .ok (.iload_n 1, 1) := by decide +kernel
theorem dX6_come_9 : decode cX6_come 9 = .ok (.iconst 0, 1) := by decide +kernel
theorem dX6_come_10 : decode cX6_come 10 = .ok (.invokevirtual 111, 3) := by decide +kernel
theorem dX6_come_13 : decode cX6_come 13 = .ok (.ifCond .ne 13, 3) := by decide +kernel
theorem dX6_come_16 : decode cX6_come 16 = .ok (.new 73, 3) := by decide +kernel
theorem dX6_come_19 : decode cX6_come 19 = .ok (.dup, 1) := by decide +kernel
theorem dX6_come_20 : decode cX6_come 20 = .ok (.ldc 115, 2) := by decide +kernel
theorem dX6_come_22 : decode cX6_come 22 = .ok (.invokespecial 77, 3) := by decide +kernel
theorem dX6_come_25 : decode cX6_come 25 = .ok (.athrow, 1) := by decide +kernel
theorem dX6_come_26 : decode cX6_come 26 = .ok (.aload_n 0, 1) := by decide +kernel
theorem dX6_come_27 : decode cX6_come 27 = .ok (.getfield 26, 3) := by decide +kernel
theorem dX6_come_30 : decode cX6_come 30 = .ok (.aload_n 0, 1) := by decide +kernel
theorem dX6_come_31 : decode cX6_come 31 = .ok (.getfield 10, 3) := by decide +kernel
theorem dX6_come_34 : decode cX6_come 34 = .ok (.invokevirtual 78, 3) := by decide +kernel
theorem dX6_come_37 : decode cX6_come 37 = .ok (.aload_n 0, 1) := by decide +kernel
theorem dX6_come_38 : decode cX6_come 38 = .ok (.getfield 10, 3) := by decide +kernel
theorem dX6_come_41 : decode cX6_come 41 = .ok (.iload_n 1, 1) := by decide +kernel
theorem dX6_come_42 : decode cX6_come 42 = .ok (.invokevirtual 117, 3) := by decide +kernel
theorem dX6_come_45 : decode cX6_come 45 = .ok (.ireturn, 1) := by decide +kernel
theorem dX6_go_0 : decode cX6_go 0 = .ok (.iload_n 1, 1) := by decide +kernel
theorem dX6_go_1 : decode cX6_go 1 = .ok (.invokestatic 108, 3) := by decide +kernel
theorem dX6_go_4 : decode cX6_go 4 = .ok (.aload_n 0, 1) := by decide +kernel
theorem dX6_go_5 : decode cX6_go 5 = .ok (.getfield 10, 3) := by decide +kernel
theorem dX6_go_8 : decode cX6_go 8 = .ok (.iload_n 1, 1) := by decide +kernel
theorem dX6_go_9 : decode cX6_go 9 = .ok (.iconst 1, 1) := by decide +kernel
theorem dX6_go_10 : decode cX6_go 10 = .ok (.invokevirtual 111, 3) := by decide +kernel
theorem dX6_go_13 : decode cX6_go 13 = .ok (.ifCond .ne 13, 3) := by decide +kernel
theorem dX6_go_16 : decode cX6_go 16 = .ok (.new 73, 3) := by decide +kernel
theorem dX6_go_19 : decode cX6_go 19 = .ok (.dup, 1) := by decide +kernel
theorem dX6_go_20 : decode cX6_go 20 = .ok (.ldc 121, 2) := by decide +kernel
theorem dX6_go_22 : decode cX6_go 22 = .ok (.invokespecial 77, 3) := by decide +kernel
theorem dX6_go_25 : decode cX6_go 25 = .ok (.athrow, 1) := by decide +kernel
theorem dX6_go_26 : decode cX6_go 26 = .ok (.aload_n 0, 1) := by decide +kernel
theorem dX6_go_27 : decode cX6_go 27 = .ok (.getfield 26, 3) := by decide +kernel
theorem dX6_go_30 : decode cX6_go 30 = .ok (.aload_n 0, 1) := by decide +kernel
theorem dX6_go_31 : decode cX6_go 31 = .ok (.getfield 10, 3) := by decide +kernel
theorem dX6_go_34 : decode cX6_go 34 = .ok (.invokevirtual 78, 3) := by decide +kernel
theorem dX6_go_37 : decode cX6_go 37 = .ok (.aload_n 0, 1) := by decide +kernel
theorem dX6_go_38 : decode cX6_go 38 = .ok (.getfield 10, 3) := by decide +kernel
theorem dX6_go_41 : decode cX6_go 41 = .ok (.iload_n 1, 1) := by decide +kernel
theorem dX6_go_42 : decode cX6_go 42 = .ok (.invokevirtual 117, 3) := by decide +kernel
theorem dX6_go_45 : decode cX6_go 45 = .ok (.ireturn, 1) := by decide +kernel
theorem dX6_pass_0 : decode cX6_pass 0 = .ok (.iload_n 1, 1) := by decide +kernel
theorem dX6_pass_1 : decode cX6_pass 1 = .ok (.invokestatic 123, 3) := by decide +kernel
theorem dX6_pass_4 : decode cX6_pass 4 = .ok (.aload_n 0, 1) := by decide +kernel
theorem dX6_pass_5 : decode cX6_pass 5 = .ok (.getfield 26, 3) := by decide +kernel
theorem dX6_pass_8 : decode cX6_pass 8 = .ok (.aload_n 0, 1) := by decide +kernel
theorem dX6_pass_9 : decode cX6_pass 9 = .ok (.getfield 10, 3) := by decide +kernel
theorem dX6_pass_12 : decode cX6_pass 12 = .ok (.invokevirtual 78, 3) := by decide +kernel
theorem dX6_pass_15 : decode cX6_pass 15 = .ok (.aload_n 0, 1) := by decide +kernel
theorem dX6_pass_16 : decode cX6_pass 16 = .ok (.getfield 10, 3) := by decide +kernel
theorem dX6_pass_19 : decode cX6_pass 19 = .ok (.iload_n 1, 1) := by decide +kernel
theorem dX6_pass_20 : decode cX6_pass 20 = .ok (.invokevirtual 126, 3) := by decide +kernel
theorem dX6_pass_23 : decode cX6_pass 23 = .ok (.ireturn, 1) := by decide +kernel
theorem dX6_keep_0 : decode cX6_keep 0 = .ok (.aload_n 0, 1) := by decide +kernel
theorem dX6_keep_1 : decode cX6_keep 1 = .ok (.getfield 16, 3) := by decide +kernel
theorem dX6_keep_4 : decode cX6_keep 4 = .ok (.aload_n 0, 1) := by decide +kernel
theorem dX6_keep_5 : decode cX6_keep 5 = .ok (.getfield 10, 3) := by decide +kernel
theorem dX6_keep_8 : decode cX6_keep 8 = .ok (.invokevirtual 146, 3) := by decide +kernel
theorem dX6_keep_11 : decode cX6_keep 11 = .ok (.aload_n 0, 1) := by decide +kernel
theorem dX6_keep_12 : decode cX6_keep 12 = .ok (.iconst 1, 1) := by decide +kernel
theorem dX6_keep_13 : decode cX6_keep 13 = .ok (.putfield 19, 3) := by decide +kernel
theorem dX6_keep_16 : decode cX6_keep 16 = .ok (.aload_n 0, 1) := by decide +kernel
theorem dX6_keep_17 : decode cX6_keep 17 = .ok (.getfield 10, 3) := by decide +kernel
theorem dX6_keep_20 : decode cX6_keep 20 = .ok (.getfield 149, 3) := by decide +kernel
theorem dX6_keep_23 : decode cX6_keep 23 = .ok (.ireturn, 1) := by decide +kernel
theorem dX6_goBack_0 : decode cX6_goBack 0 = .ok (.aload_n 0, 1) := by decide +kernel
theorem dX6_goBack_1 : decode cX6_goBack 1 = .ok (.getfield 19, 3) := by decide +kernel
theorem dX6_goBack_4 : decode cX6_goBack 4 = .ok (.ifCond .ne 13, 3) := by decide +kernel
theorem dX6_goBack_7 : decode cX6_goBack 7 = .ok (.new 73, 3) := by decide +kernel
theorem dX6_goBack_10 : decode cX6_goBack 10 = .ok (.dup, 1) := by decide +kernel
theorem dX6_goBack_11 : decode cX6_goBack 11 = .ok (.ldc 152, 2) := by decide +kernel
theorem dX6_goBack_13 : decode cX6_goBack 13 = .ok (.invokespecial 77, 3) := by decide +kernel
theorem dX6_goBack_16 : decode cX6_goBack 16 = .ok (.athrow, 1) := by decide +kernel
theorem dX6_goBack_17 : decode cX6_goBack 17 = .ok (.aload_n 0, 1) := by decide +kernel
theorem dX6_goBack_18 : decode cX6_goBack 18 = .ok (.getfield 26, 3) := by decide +kernel
theorem dX6_goBack_21 : decode cX6_goBack 21 = .ok (.aload_n 0, 1) := by decide +kernel
theorem dX6_goBack_22 : decode cX6_goBack 22 = .ok (.getfield 10, 3) := by decide +kernel
theorem dX6_goBack_25 : decode cX6_goBack 25 = .ok (.invokevirtual 78, 3) := by decide +kernel
theorem dX6_goBack_28 : decode cX6_goBack 28 = .ok (.aload_n 0, 1) := by decide +kernel
theorem dX6_goBack_29 : decode cX6_goBack 29 = .ok (.getfield 10, 3) := by decide +kernel
theorem dX6_goBack_32 : decode cX6_goBack 32 = .ok (.aload_n 0, 1) := by decide +kernel
theorem dX6_goBack_33 : decode cX6_goBack 33 = .ok (.getfield 16, 3) := by decide +kernel
theorem dX6_goBack_36 : decode cX6_goBack 36 = .ok (.invokevirtual 146, 3) := by decide +kernel
theorem dX6_goBack_39 : decode cX6_goBack 39 = .ok (.aload_n 0, 1) := by decide +kernel
theorem dX6_goBack_40 : decode cX6_goBack 40 = .ok (.getfield 10, 3) := by decide +kernel
theorem dX6_goBack_43 : decode cX6_goBack 43 = .ok (.getfield 149, 3) := by decide +kernel
theorem dX6_goBack_46 : decode cX6_goBack 46 = .ok (.ireturn, 1) := by decide +kernel
theorem dX6_undo_0 : decode cX6_undo 0 = .ok (.aload_n 0, 1) := by decide +kernel
theorem dX6_undo_1 : decode cX6_undo 1 = .ok (.getfield 26, 3) := by decide +kernel
theorem dX6_undo_4 : decode cX6_undo 4 = .ok (.getfield 154, 3) := by decide +kernel
theorem dX6_undo_7 : decode cX6_undo 7 = .ok (.ifCond .gt 13, 3) := by decide +kernel
theorem dX6_undo_10 : decode cX6_undo 10 = .ok (.new 73, 3) := by decide +kernel
theorem dX6_undo_13 : decode cX6_undo 13 = .ok (.dup, 1) := by decide +kernel
theorem dX6_undo_14 : decode cX6_undo 14 = .ok (.ldc 155, 2) := by decide +kernel
theorem dX6_undo_16 : decode cX6_undo 16 = .ok (.invokespecial 77, 3) := by decide +kernel
theorem dX6_undo_19 : decode cX6_undo 19 = .ok (.athrow, 1) := by decide +kernel
theorem dX6_undo_20 : decode cX6_undo 20 = .ok (.aload_n 0, 1) := by decide +kernel
theorem dX6_undo_21 : decode cX6_undo 21 = .ok (.getfield 26, 3) := by decide +kernel
theorem dX6_undo_24 : decode cX6_undo 24 = .ok (.aload_n 0, 1) := by decide +kernel
theorem dX6_undo_25 : decode cX6_undo 25 = .ok (.getfield 10, 3) := by decide +kernel
theorem dX6_undo_28 : decode cX6_undo 28 = .ok (.invokevirtual 157, 3) := by decide +kernel
theorem dX6_undo_31 : decode cX6_undo 31 = .ok (.aload_n 0, 1) := by decide +kernel
theorem dX6_undo_32 : decode cX6_undo 32 = .ok (.getfield 26, 3) := by decide +kernel
theorem dX6_undo_35 : decode cX6_undo 35 = .ok (.getfield 154, 3) := by decide +kernel
theorem dX6_undo_38 : decode cX6_undo 38 = .ok (.ireturn, 1) := by decide +kernel
theorem dX6_rules_0 : decode cX6_rules 0 = .ok (.aload_n 0, 1) := by decide +kernel
theorem dX6_rules_1 : decode cX6_rules 1 = .ok (.getfield 10, 3) := by decide +kernel
theorem dX6_rules_4 : decode cX6_rules 4 = .ok (.getfield 70, 3) := by decide +kernel
theorem dX6_rules_7 : decode cX6_rules 7 = .ok (.ireturn, 1) := by decide +kernel
theorem dX6_shouldBeLet_0 : decode cX6_shouldBeLet 0 = .ok (.aload_n 0, 1) := by decide +kernel
theorem dX6_shouldBeLet_1 : decode cX6_shouldBeLet 1 = .ok (.iload_n 1, 1) := by decide +kernel
theorem dX6_shouldBeLet_2 : decode cX6_shouldBeLet 2 = .ok (.invokevirtual 86, 3) := by decide +kernel
theorem dX6_shouldBeLet_5 : decode cX6_shouldBeLet 5 = .ok (.aload_n 0, 1) := by decide +kernel
theorem dX6_shouldBeLet_6 : decode cX6_shouldBeLet 6 = .ok (.getfield 10, 3) := by decide +kernel
theorem dX6_shouldBeLet_9 : decode cX6_shouldBeLet 9 = .ok (.iload_n 1, 1) := by decide +kernel
theorem dX6_shouldBeLet_10 : decode cX6_shouldBeLet 10 = .ok (.invokevirtual 93, 3) := by decide +kernel
theorem dX6_shouldBeLet_13 : decode cX6_shouldBeLet 13 = .ok (.getfield 160, 3) := by decide +kernel
theorem dX6_shouldBeLet_16 : decode cX6_shouldBeLet 16 = .ok (.ireturn, 1) := by decide +kernel
theorem dX6_shouldBeEmpty_0 : decode cX6_shouldBeEmpty 0 = .ok (.aload_n 0, 1) := by decide +kernel
theorem dX6_shouldBeEmpty_1 : decode cX6_shouldBeEmpty 1 = .ok (.iload_n 1, 1) := by decide +kernel
theorem dX6_shouldBeEmpty_2 : decode cX6_shouldBeEmpty 2 = .ok (.invokevirtual 86, 3) := by decide +kernel
theorem dX6_shouldBeEmpty_5 : decode cX6_shouldBeEmpty 5 = .ok (.aload_n 0, 1) := by decide +kernel
theorem dX6_shouldBeEmpty_6 : decode cX6_shouldBeEmpty 6 = .ok (.getfield 10, 3) := by decide +kernel
theorem dX6_shouldBeEmpty_9 : decode cX6_shouldBeEmpty 9 = .ok (.iload_n 1, 1) := by decide +kernel
theorem dX6_shouldBeEmpty_10 : decode cX6_shouldBeEmpty 10 = .ok (.invokevirtual 93, 3) := by decide +kernel
theorem dX6_shouldBeEmpty_13 : decode cX6_shouldBeEmpty 13 = .ok (.getfield 163, 3) := by decide +kernel
theorem dX6_shouldBeEmpty_16 : decode cX6_shouldBeEmpty 16 = .ok (.ireturn, 1) := by decide +kernel
theorem dX6_fine_0 : decode cX6_fine 0 = .ok (.aload_n 0, 1) := by decide +kernel
theorem dX6_fine_1 : decode cX6_fine 1 = .ok (.iload_n 1, 1) := by decide +kernel
theorem dX6_fine_2 : decode cX6_fine 2 = .ok (.invokevirtual 86, 3) := by decide +kernel
theorem dX6_fine_5 : decode cX6_fine 5 = .ok (.aload_n 0, 1) := by decide +kernel
theorem dX6_fine_6 : decode cX6_fine 6 = .ok (.getfield 10, 3) := by decide +kernel
theorem dX6_fine_9 : decode cX6_fine 9 = .ok (.iload_n 1, 1) := by decide +kernel
theorem dX6_fine_10 : decode cX6_fine 10 = .ok (.invokevirtual 93, 3) := by decide +kernel
theorem dX6_fine_13 : decode cX6_fine 13 = .ok (.getfield 166, 3) := by decide +kernel
theorem dX6_fine_16 : decode cX6_fine 16 = .ok (.ireturn, 1) := by decide +kernel
theorem dX6_isStrict_0 : decode cX6_isStrict 0 = .ok (.aload_n 0, 1) := by decide +kernel
theorem dX6_isStrict_1 : decode cX6_isStrict 1 = .ok (.iload_n 1, 1) := by decide +kernel
theorem dX6_isStrict_2 : decode cX6_isStrict 2 = .ok (.invokevirtual 86, 3) := by decide +kernel
theorem dX6_isStrict_5 : decode cX6_isStrict 5 = .ok (.aload_n 0, 1) := by decide +kernel
theorem dX6_isStrict_6 : decode cX6_isStrict 6 = .ok (.getfield 10, 3) := by decide +kernel
theorem dX6_isStrict_9 : decode cX6_isStrict 9 = .ok (.iload_n 1, 1) := by decide +kernel
theorem dX6_isStrict_10 : decode cX6_isStrict 10 = .ok (.invokevirtual 93, 3) := by decide +kernel
theorem dX6_isStrict_13 : decode cX6_isStrict 13 = .ok (.getfield 97, 3) := by decide +kernel
theorem dX6_isStrict_16 : decode cX6_isStrict 16 = .ok (.ireturn, 1) := by decide +kernel
theorem dX6_waivedFor_0 : decode cX6_waivedFor 0 = .ok (.aload_n 0, 1) := by decide +kernel
theorem dX6_waivedFor_1 : decode cX6_waivedFor 1 = .ok (.iload_n 1, 1) := by decide +kernel
theorem dX6_waivedFor_2 : decode cX6_waivedFor 2 = .ok (.invokevirtual 86, 3) := by decide +kernel
theorem dX6_waivedFor_5 : decode cX6_waivedFor 5 = .ok (.aload_n 0, 1) := by decide +kernel
theorem dX6_waivedFor_6 : decode cX6_waivedFor 6 = .ok (.getfield 10, 3) := by decide +kernel
theorem dX6_waivedFor_9 : decode cX6_waivedFor 9 = .ok (.iload_n 1, 1) := by decide +kernel
theorem dX6_waivedFor_10 : decode cX6_waivedFor 10 = .ok (.invokevirtual 169, 3) := by decide +kernel
theorem dX6_waivedFor_13 : decode cX6_waivedFor 13 = .ok (.ireturn, 1) := by decide +kernel
theorem dX6_holdsIn_0 : decode cX6_holdsIn 0 = .ok (.aload_n 0, 1) := by decide +kernel
theorem dX6_holdsIn_1 : decode cX6_holdsIn 1 = .ok (.iload_n 1, 1) := by decide +kernel
theorem dX6_holdsIn_2 : decode cX6_holdsIn 2 = .ok (.invokevirtual 86, 3) := by decide +kernel
theorem dX6_holdsIn_5 : decode cX6_holdsIn 5 = .ok (.iload_n 2, 1) := by decide +kernel
theorem dX6_holdsIn_6 : decode cX6_holdsIn 6 = .ok (.ifCond .lt 9, 3) := by decide +kernel
theorem dX6_holdsIn_9 : decode cX6_holdsIn 9 = .ok (.iload_n 2, 1) := by decide +kernel
theorem dX6_holdsIn_10 : decode cX6_holdsIn 10 = .ok (.bipush 64, 2) := by decide +kernel
theorem dX6_holdsIn_12 : decode cX6_holdsIn 12 = .ok (.if_icmp .lt 13, 3) := by decide +kernel
theorem dX6_holdsIn_15 : decode cX6_holdsIn 15 = .ok (.new 59, 3) := by decide +kernel
theorem dX6_holdsIn_18 : decode cX6_holdsIn 18 = .ok (.dup, 1) := by decide +kernel
theorem dX6_holdsIn_19 : decode cX6_holdsIn 19 = .ok (.ldc 172, 2) := by decide +kernel
theorem dX6_holdsIn_21 : decode cX6_holdsIn 21 = .ok (.invokespecial 63, 3) := by decide +kernel
theorem dX6_holdsIn_24 : decode cX6_holdsIn 24 = .ok (.athrow, 1) := by decide +kernel
theorem dX6_holdsIn_25 : decode cX6_holdsIn 25 = .ok (.aload_n 0, 1) := by decide +kernel
theorem dX6_holdsIn_26 : decode cX6_holdsIn 26 = .ok (.getfield 10, 3) := by decide +kernel
theorem dX6_holdsIn_29 : decode cX6_holdsIn 29 = .ok (.iload_n 1, 1) := by decide +kernel
theorem dX6_holdsIn_30 : decode cX6_holdsIn 30 = .ok (.invokevirtual 93, 3) := by decide +kernel
theorem dX6_holdsIn_33 : decode cX6_holdsIn 33 = .ok (.iload_n 2, 1) := by decide +kernel
theorem dX6_holdsIn_34 : decode cX6_holdsIn 34 = .ok (.invokevirtual 174, 3) := by decide +kernel
theorem dX6_holdsIn_37 : decode cX6_holdsIn 37 = .ok (.ireturn, 1) := by decide +kernel
theorem dX6_way_0 : decode cX6_way 0 = .ok (.aload_n 0, 1) := by decide +kernel
theorem dX6_way_1 : decode cX6_way 1 = .ok (.getfield 10, 3) := by decide +kernel
theorem dX6_way_4 : decode cX6_way 4 = .ok (.getfield 178, 3) := by decide +kernel
theorem dX6_way_7 : decode cX6_way 7 = .ok (.ireturn, 1) := by decide +kernel
theorem dX6_day_0 : decode cX6_day 0 = .ok (.aload_n 0, 1) := by decide +kernel
theorem dX6_day_1 : decode cX6_day 1 = .ok (.getfield 10, 3) := by decide +kernel
theorem dX6_day_4 : decode cX6_day 4 = .ok (.getfield 149, 3) := by decide +kernel
theorem dX6_day_7 : decode cX6_day 7 = .ok (.ireturn, 1) := by decide +kernel
theorem dX6_inForce_0 : decode cX6_inForce 0 = .ok (.aload_n 0, 1) := by decide +kernel
theorem dX6_inForce_1 : decode cX6_inForce 1 = .ok (.getfield 10, 3) := by decide +kernel
theorem dX6_inForce_4 : decode cX6_inForce 4 = .ok (.aload_n 0, 1) := by decide +kernel
theorem dX6_inForce_5 : decode cX6_inForce 5 = .ok (.getfield 10, 3) := by decide +kernel
theorem dX6_inForce_8 : decode cX6_inForce 8 = .ok (.getfield 149, 3) := by decide +kernel
theorem dX6_inForce_11 : decode cX6_inForce 11 = .ok (.invokevirtual 181, 3) := by decide +kernel
theorem dX6_inForce_14 : decode cX6_inForce 14 = .ok (.ireturn, 1) := by decide +kernel
theorem dX6_broken_0 : decode cX6_broken 0 = .ok (.aload_n 0, 1) := by decide +kernel
theorem dX6_broken_1 : decode cX6_broken 1 = .ok (.getfield 10, 3) := by decide +kernel
theorem dX6_broken_4 : decode cX6_broken 4 = .ok (.aload_n 0, 1) := by decide +kernel
theorem dX6_broken_5 : decode cX6_broken 5 = .ok (.getfield 10, 3) := by decide +kernel
theorem dX6_broken_8 : decode cX6_broken 8 = .ok (.getfield 178, 3) := by decide +kernel
theorem dX6_broken_11 : decode cX6_broken 11 = .ok (.aload_n 0, 1) := by decide +kernel
theorem dX6_broken_12 : decode cX6_broken 12 = .ok (.getfield 10, 3) := by decide +kernel
theorem dX6_broken_15 : decode cX6_broken 15 = .ok (.getfield 149, 3) := by decide +kernel
theorem dX6_broken_18 : decode cX6_broken 18 = .ok (.invokevirtual 184, 3) := by decide +kernel
theorem dX6_broken_21 : decode cX6_broken 21 = .ok (.ireturn, 1) := by decide +kernel
theorem dX6_refusedBy_0 : decode cX6_refusedBy 0 = .ok (.iload_n 1, 1) := by decide +kernel
theorem dX6_refusedBy_1 : decode cX6_refusedBy 1 = .ok (.invokestatic 108, 3) := by decide +kernel
theorem dX6_refusedBy_4 : decode cX6_refusedBy 4 = .ok (.aload_n 0, 1) := by decide +kernel
theorem dX6_refusedBy_5 : decode cX6_refusedBy 5 = .ok (.getfield 10, 3) := by decide +kernel
theorem dX6_refusedBy_8 : decode cX6_refusedBy 8 = .ok (.iload_n 1, 1) := by decide +kernel
theorem dX6_refusedBy_9 : decode cX6_refusedBy 9 = .ok (.invokevirtual 187, 3) := by decide +kernel
theorem dX6_refusedBy_12 : decode cX6_refusedBy 12 = .ok (.ireturn, 1) := by decide +kernel
theorem dX6_finesOf_0 : decode cX6_finesOf 0 = .ok (.aload_n 0, 1) := by decide +kernel
theorem dX6_finesOf_1 : decode cX6_finesOf 1 = .ok (.iload_n 1, 1) := by decide +kernel
theorem dX6_finesOf_2 : decode cX6_finesOf 2 = .ok (.invokevirtual 86, 3) := by decide +kernel
theorem dX6_finesOf_5 : decode cX6_finesOf 5 = .ok (.aload_n 0, 1) := by decide +kernel
theorem dX6_finesOf_6 : decode cX6_finesOf 6 = .ok (.getfield 10, 3) := by decide +kernel
theorem dX6_finesOf_9 : decode cX6_finesOf 9 = .ok (.iload_n 1, 1) := by decide +kernel
theorem dX6_finesOf_10 : decode cX6_finesOf 10 = .ok (.invokevirtual 93, 3) := by decide +kernel
theorem dX6_finesOf_13 : decode cX6_finesOf 13 = .ok (.getfield 190, 3) := by decide +kernel
theorem dX6_finesOf_16 : decode cX6_finesOf 16 = .ok (.ireturn, 1) := by decide +kernel
theorem dX6_fines_0 : decode cX6_fines 0 = .ok (.aload_n 0, 1) := by decide +kernel
theorem dX6_fines_1 : decode cX6_fines 1 = .ok (.getfield 10, 3) := by decide +kernel
theorem dX6_fines_4 : decode cX6_fines 4 = .ok (.getfield 193, 3) := by decide +kernel
theorem dX6_fines_7 : decode cX6_fines 7 = .ok (.ireturn, 1) := by decide +kernel
theorem dX6_finesByRules_0 : decode cX6_finesByRules 0 = .ok (.aload_n 0, 1) := by decide +kernel
theorem dX6_finesByRules_1 : decode cX6_finesByRules 1 = .ok (.getfield 10, 3) := by decide +kernel
theorem dX6_finesByRules_4 : decode cX6_finesByRules 4 = .ok (.invokevirtual 196, 3) := by decide +kernel
theorem dX6_finesByRules_7 : decode cX6_finesByRules 7 = .ok (.ireturn, 1) := by decide +kernel
theorem dX6_canStand_0 : decode cX6_canStand 0 = .ok (.aload_n 0, 1) := by decide +kernel
theorem dX6_canStand_1 : decode cX6_canStand 1 = .ok (.iload_n 1, 1) := by decide +kernel
theorem dX6_canStand_2 : decode cX6_canStand 2 = .ok (.invokevirtual 199, 3) := by decide +kernel
theorem dX6_canStand_5 : decode cX6_canStand 5 = .ok (.aload_n 0, 1) := by decide +kernel
theorem dX6_canStand_6 : decode cX6_canStand 6 = .ok (.getfield 10, 3) := by decide +kernel
theorem dX6_canStand_9 : decode cX6_canStand 9 = .ok (.iload_n 1, 1) := by decide +kernel
theorem dX6_canStand_10 : decode cX6_canStand 10 = .ok (.invokevirtual 202, 3) := by decide +kernel
theorem dX6_canStand_13 : decode cX6_canStand 13 = .ok (.lconst 0, 1) := by decide +kernel
theorem dX6_canStand_14 : decode cX6_canStand 14 = .ok (.lcmp, 1) := by decide +kernel
theorem dX6_canStand_15 : decode cX6_canStand 15 = .ok (.ifCond .eq 7, 3) := by decide +kernel
theorem dX6_canStand_18 : decode cX6_canStand 18 = .ok (.iconst 1, 1) := by decide +kernel
theorem dX6_canStand_19 : decode cX6_canStand 19 = .ok (.goto 4, 3) := by decide +kernel
theorem dX6_canStand_22 : decode cX6_canStand 22 = .ok (.iconst 0, 1) := by decide +kernel
theorem dX6_canStand_23 : decode cX6_canStand 23 = .ok (.ireturn, 1) := by decide +kernel
theorem dX6_canStandBySplitting_0 : decode cX6_canStandBySplitting 0 = .ok (.aload_n 0, 1) := by decide +kernel
theorem dX6_canStandBySplitting_1 : decode cX6_canStandBySplitting 1 = .ok (.iload_n 1, 1) := by decide +kernel
theorem dX6_canStandBySplitting_2 : decode cX6_canStandBySplitting 2 = .ok (.invokevirtual 199, 3) := by decide +kernel
theorem dX6_canStandBySplitting_5 : decode cX6_canStandBySplitting 5 = .ok (.aload_n 0, 1) := by decide +kernel
theorem dX6_canStandBySplitting_6 : decode cX6_canStandBySplitting 6 = .ok (.getfield 10, 3) := by decide +kernel
theorem dX6_canStandBySplitting_9 : decode cX6_canStandBySplitting 9 = .ok (.iload_n 1, 1) := by decide +kernel
theorem dX6_canStandBySplitting_10 : decode cX6_canStandBySplitting 10 = .ok (.iconst 0, 1) := by decide +kernel
theorem dX6_canStandBySplitting_11 : decode cX6_canStandBySplitting 11 = .ok (.iconst 0, 1) := by decide +kernel
theorem dX6_canStandBySplitting_12 : decode cX6_canStandBySplitting 12 = .ok (.iconst 0, 1) := by decide +kernel
theorem dX6_canStandBySplitting_13 : decode cX6_canStandBySplitting 13 = .ok (.invokestatic 206, 3) := by decide +kernel
theorem dX6_canStandBySplitting_16 : decode cX6_canStandBySplitting 16 = .ok (.ifCond .le 7, 3) := by decide +kernel
theorem dX6_canStandBySplitting_19 : decode cX6_canStandBySplitting 19 = .ok (.iconst 1, 1) := by decide +kernel
theorem dX6_canStandBySplitting_20 : decode cX6_canStandBySplitting 20 = .ok (.goto 4, 3) := by decide +kernel
theorem dX6_canStandBySplitting_23 : decode cX6_canStandBySplitting 23 = .ok (.iconst 0, 1) := by decide +kernel
theorem dX6_canStandBySplitting_24 : decode cX6_canStandBySplitting 24 = .ok (.ireturn, 1) := by decide +kernel
theorem dX6_canStandByJoining_0 : decode cX6_canStandByJoining 0 = .ok (.aload_n 0, 1) := by decide +kernel
theorem dX6_canStandByJoining_1 : decode cX6_canStandByJoining 1 = .ok (.iload_n 1, 1) := by decide +kernel
theorem dX6_canStandByJoining_2 : decode cX6_canStandByJoining 2 = .ok (.invokevirtual 199, 3) := by decide +kernel
theorem dX6_canStandByJoining_5 : decode cX6_canStandByJoining 5 = .ok (.aload_n 0, 1) := by decide +kernel
theorem dX6_canStandByJoining_6 : decode cX6_canStandByJoining 6 = .ok (.getfield 48, 3) := by decide +kernel
theorem dX6_canStandByJoining_9 : decode cX6_canStandByJoining 9 = .ok (.aload_n 0, 1) := by decide +kernel
theorem dX6_canStandByJoining_10 : decode cX6_canStandByJoining 10 = .ok (.getfield 10, 3) := by decide +kernel
theorem dX6_canStandByJoining_13 : decode cX6_canStandByJoining 13 = .ok (.iload_n 1, 1) := by decide +kernel
theorem dX6_canStandByJoining_14 : decode cX6_canStandByJoining 14 = .ok (.invokevirtual 210, 3) := by decide +kernel
theorem dX6_canStandByJoining_17 : decode cX6_canStandByJoining 17 = .ok (.aload_n 0, 1) := by decide +kernel
theorem dX6_canStandByJoining_18 : decode cX6_canStandByJoining 18 = .ok (.getfield 48, 3) := by decide +kernel
theorem dX6_canStandByJoining_21 : decode cX6_canStandByJoining 21 = .ok (.invokevirtual 214, 3) := by decide +kernel
theorem dX6_canStandByJoining_24 : decode cX6_canStandByJoining 24 = .ok (.ifCond .ne 7, 3) := by decide +kernel
theorem dX6_canStandByJoining_27 : decode cX6_canStandByJoining 27 = .ok (.iconst 1, 1) := by decide +kernel
theorem dX6_canStandByJoining_28 : decode cX6_canStandByJoining 28 = .ok (.goto 4, 3) := by decide +kernel
theorem dX6_canStandByJoining_31 : decode cX6_canStandByJoining 31 = .ok (.iconst 0, 1) := by decide +kernel
theorem dX6_canStandByJoining_32 : decode cX6_canStandByJoining 32 = .ok (.ireturn, 1) := by decide +kernel
theorem dX6_joined_0 : decode cX6_joined 0 = .ok (.aload_n 0, 1) := by decide +kernel
theorem dX6_joined_1 : decode cX6_joined 1 = .ok (.iload_n 1, 1) := by decide +kernel
theorem dX6_joined_2 : decode cX6_joined 2 = .ok (.invokevirtual 199, 3) := by decide +kernel
theorem dX6_joined_5 : decode cX6_joined 5 = .ok (.aload_n 0, 1) := by decide +kernel
theorem dX6_joined_6 : decode cX6_joined 6 = .ok (.getfield 48, 3) := by decide +kernel
theorem dX6_joined_9 : decode cX6_joined 9 = .ok (.aload_n 0, 1) := by decide +kernel
theorem dX6_joined_10 : decode cX6_joined 10 = .ok (.getfield 10, 3) := by decide +kernel
theorem dX6_joined_13 : decode cX6_joined 13 = .ok (.iload_n 1, 1) := by decide +kernel
theorem dX6_joined_14 : decode cX6_joined 14 = .ok (.invokevirtual 210, 3) := by decide +kernel
theorem dX6_joined_17 : decode cX6_joined 17 = .ok (.aload_n 0, 1) := by decide +kernel
theorem dX6_joined_18 : decode cX6_joined 18 = .ok (.getfield 48, 3) := by decide +kernel
theorem dX6_joined_21 : decode cX6_joined 21 = .ok (.getfield 217, 3) := by decide +kernel
theorem dX6_joined_24 : decode cX6_joined 24 = .ok (.ireturn, 1) := by decide +kernel
theorem dX6_ways_0 : decode cX6_ways 0 = .ok (.aload_n 0, 1) := by decide +kernel
theorem dX6_ways_1 : decode cX6_ways 1 = .ok (.invokevirtual 218, 3) := by decide +kernel
theorem dX6_ways_4 : decode cX6_ways 4 = .ok (.ireturn, 1) := by decide +kernel
theorem dX6_waysBySplitting_0 : decode cX6_waysBySplitting 0 = .ok (.aload_n 0, 1) := by decide +kernel
theorem dX6_waysBySplitting_1 : decode cX6_waysBySplitting 1 = .ok (.getfield 10, 3) := by decide +kernel
theorem dX6_waysBySplitting_4 : decode cX6_waysBySplitting 4 = .ok (.aload_n 0, 1) := by decide +kernel
theorem dX6_waysBySplitting_5 : decode cX6_waysBySplitting 5 = .ok (.getfield 10, 3) := by decide +kernel
theorem dX6_waysBySplitting_8 : decode cX6_waysBySplitting 8 = .ok (.aload_n 0, 1) := by decide +kernel
theorem dX6_waysBySplitting_9 : decode cX6_waysBySplitting 9 = .ok (.getfield 10, 3) := by decide +kernel
theorem dX6_waysBySplitting_12 : decode cX6_waysBySplitting 12 = .ok (.getfield 149, 3) := by decide +kernel
theorem dX6_waysBySplitting_15 : decode cX6_waysBySplitting 15 = .ok (.invokevirtual 181, 3) := by decide +kernel
theorem dX6_waysBySplitting_18 : decode cX6_waysBySplitting 18 = .ok (.iconst 0, 1) := by decide +kernel
theorem dX6_waysBySplitting_19 : decode cX6_waysBySplitting 19 = .ok (.iconst 0, 1) := by decide +kernel
theorem dX6_waysBySplitting_20 : decode cX6_waysBySplitting 20 = .ok (.iconst 0, 1) := by decide +kernel
theorem dX6_waysBySplitting_21 : decode cX6_waysBySplitting 21 = .ok (.invokestatic 206, 3) := by decide +kernel
theorem dX6_waysBySplitting_24 : decode cX6_waysBySplitting 24 = .ok (.ireturn, 1) := by decide +kernel
theorem dX6_forced_0 : decode cX6_forced 0 = .ok (.iload_n 1, 1) := by decide +kernel
theorem dX6_forced_1 : decode cX6_forced 1 = .ok (.invokestatic 108, 3) := by decide +kernel
theorem dX6_forced_4 : decode cX6_forced 4 = .ok (.aload_n 0, 1) := by decide +kernel
theorem dX6_forced_5 : decode cX6_forced 5 = .ok (.iload_n 1, 1) := by decide +kernel
theorem dX6_forced_6 : decode cX6_forced 6 = .ok (.invokevirtual 229, 3) := by decide +kernel
theorem dX6_forced_9 : decode cX6_forced 9 = .ok (.ireturn, 1) := by decide +kernel
theorem dX6_follows_0 : decode cX6_follows 0 = .ok (.aload_n 0, 1) := by decide +kernel
theorem dX6_follows_1 : decode cX6_follows 1 = .ok (.iload_n 1, 1) := by decide +kernel
theorem dX6_follows_2 : decode cX6_follows 2 = .ok (.invokevirtual 86, 3) := by decide +kernel
theorem dX6_follows_5 : decode cX6_follows 5 = .ok (.aload_n 0, 1) := by decide +kernel
theorem dX6_follows_6 : decode cX6_follows 6 = .ok (.iload_n 1, 1) := by decide +kernel
theorem dX6_follows_7 : decode cX6_follows 7 = .ok (.invokevirtual 232, 3) := by decide +kernel
theorem dX6_follows_10 : decode cX6_follows 10 = .ok (.ireturn, 1) := by decide +kernel
theorem dX6_followsBySplitting_0 : decode cX6_followsBySplitting 0 = .ok (.aload_n 0, 1) := by decide +kernel
theorem dX6_followsBySplitting_1 : decode cX6_followsBySplitting 1 = .ok (.iload_n 1, 1) := by decide +kernel
theorem dX6_followsBySplitting_2 : decode cX6_followsBySplitting 2 = .ok (.invokevirtual 86, 3) := by decide +kernel
theorem dX6_followsBySplitting_5 : decode cX6_followsBySplitting 5 = .ok (.aload_n 0, 1) := by decide +kernel
theorem dX6_followsBySplitting_6 : decode cX6_followsBySplitting 6 = .ok (.iload_n 1, 1) := by decide +kernel
theorem dX6_followsBySplitting_7 : decode cX6_followsBySplitting 7 = .ok (.invokevirtual 235, 3) := by decide +kernel
theorem dX6_followsBySplitting_10 : decode cX6_followsBySplitting 10 = .ok (.ireturn, 1) := by decide +kernel
theorem dX6_smallestClash_0 : decode cX6_smallestClash 0 = .ok (.aload_n 0, 1) := by decide +kernel
theorem dX6_smallestClash_1 : decode cX6_smallestClash 1 = .ok (.getfield 10, 3) := by decide +kernel
theorem dX6_smallestClash_4 : decode cX6_smallestClash 4 = .ok (.aload_n 0, 1) := by decide +kernel
theorem dX6_smallestClash_5 : decode cX6_smallestClash 5 = .ok (.getfield 10, 3) := by decide +kernel
theorem dX6_smallestClash_8 : decode cX6_smallestClash 8 = .ok (.getfield 149, 3) := by decide +kernel
theorem dX6_smallestClash_11 : decode cX6_smallestClash 11 = .ok (.invokevirtual 181, 3) := by decide +kernel
theorem dX6_smallestClash_14 : decode cX6_smallestClash 14 = .ok (.istore_n 1, 1) := by decide +kernel
theorem dX6_smallestClash_15 : decode cX6_smallestClash 15 = .ok (.aload_n 0, 1) := by decide +kernel
theorem dX6_smallestClash_16 : decode cX6_smallestClash 16 = .ok (.getfield 55, 3) := by decide +kernel
theorem dX6_smallestClash_19 : decode cX6_smallestClash 19 = .ok (.aload_n 0, 1) := by decide +kernel
theorem dX6_smallestClash_20 : decode cX6_smallestClash 20 = .ok (.getfield 10, 3) := by decide +kernel
theorem dX6_smallestClash_23 : decode cX6_smallestClash 23 = .ok (.invokevirtual 238, 3) := by decide +kernel
theorem dX6_smallestClash_26 : decode cX6_smallestClash 26 = .ok (.iconst (-1), 1) := by decide +kernel
theorem dX6_smallestClash_27 : decode cX6_smallestClash 27 = .ok (.istore_n 2, 1) := by decide +kernel
theorem dX6_smallestClash_28 : decode cX6_smallestClash 28 = .ok (.iconst 1, 1) := by decide +kernel
theorem dX6_smallestClash_29 : decode cX6_smallestClash 29 = .ok (.istore_n 3, 1) := by decide +kernel
theorem dX6_smallestClash_30 : decode cX6_smallestClash 30 = .ok (.iload_n 3, 1) := by decide +kernel
theorem dX6_smallestClash_31 : decode cX6_smallestClash 31 = .ok (.iload_n 1, 1) := by decide +kernel
theorem dX6_smallestClash_32 : decode cX6_smallestClash 32 = .ok (.if_icmp .gt 60, 3) := by decide +kernel
theorem dX6_smallestClash_35 : decode cX6_smallestClash 35 = .ok (.iload_n 3, 1) := by decide +kernel
theorem dX6_smallestClash_36 : decode cX6_smallestClash 36 = .ok (.iload_n 1, 1) := by decide +kernel
theorem dX6_smallestClash_37 : decode cX6_smallestClash 37 = .ok (.invokestatic 241, 3) := by decide +kernel
theorem dX6_smallestClash_40 : decode cX6_smallestClash 40 = .ok (.ifCond .eq 20, 3) := by decide +kernel
theorem dX6_smallestClash_43 : decode cX6_smallestClash 43 = .ok (.aload_n 0, 1) := by decide +kernel
theorem dX6_smallestClash_44 : decode cX6_smallestClash 44 = .ok (.getfield 55, 3) := by decide +kernel
theorem dX6_smallestClash_47 : decode cX6_smallestClash 47 = .ok (.iload_n 3, 1) := by decide +kernel
theorem dX6_smallestClash_48 : decode cX6_smallestClash 48 = .ok (.invokevirtual 245, 3) := by decide +kernel
theorem dX6_smallestClash_51 : decode cX6_smallestClash 51 = .ok (.lconst 0, 1) := by decide +kernel
theorem dX6_smallestClash_52 : decode cX6_smallestClash 52 = .ok (.lcmp, 1) := by decide +kernel
theorem dX6_smallestClash_53 : decode cX6_smallestClash 53 = .ok (.ifCond .ne 7, 3) := by decide +kernel
theorem dX6_smallestClash_56 : decode cX6_smallestClash 56 = .ok (.iconst 1, 1) := by decide +kernel
theorem dX6_smallestClash_57 : decode cX6_smallestClash 57 = .ok (.goto 4, 3) := by decide +kernel
theorem dX6_smallestClash_60 : decode cX6_smallestClash 60 = .ok (.iconst 0, 1) := by decide +kernel
theorem dX6_smallestClash_61 : decode cX6_smallestClash 61 = .ok (.istore 4, 2) := by decide +kernel
theorem dX6_smallestClash_63 : decode cX6_smallestClash 63 = .ok (.iload 4, 2) := by decide +kernel
theorem dX6_smallestClash_65 : decode cX6_smallestClash 65 = .ok (.ifCond .eq 21, 3) := by decide +kernel
theorem dX6_smallestClash_68 : decode cX6_smallestClash 68 = .ok (.iload_n 2, 1) := by decide +kernel
theorem dX6_smallestClash_69 : decode cX6_smallestClash 69 = .ok (.iconst (-1), 1) := by decide +kernel
theorem dX6_smallestClash_70 : decode cX6_smallestClash 70 = .ok (.if_icmp .eq 14, 3) := by decide +kernel
theorem dX6_smallestClash_73 : decode cX6_smallestClash 73 = .ok (.iload_n 3, 1) := by decide +kernel
theorem dX6_smallestClash_74 : decode cX6_smallestClash 74 = .ok (.invokestatic 248, 3) := by decide +kernel
theorem dX6_smallestClash_77 : decode cX6_smallestClash 77 = .ok (.iload_n 2, 1) := by decide +kernel
theorem dX6_smallestClash_78 : decode cX6_smallestClash 78 = .ok (.invokestatic 248, 3) := by decide +kernel
theorem dX6_smallestClash_81 : decode cX6_smallestClash 81 = .ok (.if_icmp .ge 5, 3) := by decide +kernel
theorem dX6_smallestClash_84 : decode cX6_smallestClash 84 = .ok (.iload_n 3, 1) := by decide +kernel
theorem dX6_smallestClash_85 : decode cX6_smallestClash 85 = .ok (.istore_n 2, 1) := by decide +kernel
theorem dX6_smallestClash_86 : decode cX6_smallestClash 86 = .ok (.iinc 3 1, 3) := by decide +kernel
theorem dX6_smallestClash_89 : decode cX6_smallestClash 89 = .ok (.goto (-59), 3) := by decide +kernel
theorem dX6_smallestClash_92 : decode cX6_smallestClash 92 = .ok (.iload_n 2, 1) := by decide +kernel
theorem dX6_smallestClash_93 : decode cX6_smallestClash 93 = .ok (.ireturn, 1) := by decide +kernel
theorem dX6_smallestClashByWays_0 : decode cX6_smallestClashByWays 0 = .ok (.aload_n 0, 1) := by decide +kernel
theorem dX6_smallestClashByWays_1 : decode cX6_smallestClashByWays 1 = .ok (.getfield 10, 3) := by decide +kernel
theorem dX6_smallestClashByWays_4 : decode cX6_smallestClashByWays 4 = .ok (.aload_n 0, 1) := by decide +kernel
theorem dX6_smallestClashByWays_5 : decode cX6_smallestClashByWays 5 = .ok (.getfield 10, 3) := by decide +kernel
theorem dX6_smallestClashByWays_8 : decode cX6_smallestClashByWays 8 = .ok (.getfield 149, 3) := by decide +kernel
theorem dX6_smallestClashByWays_11 : decode cX6_smallestClashByWays 11 = .ok (.invokevirtual 181, 3) := by decide +kernel
theorem dX6_smallestClashByWays_14 : decode cX6_smallestClashByWays 14 = .ok (.istore_n 1, 1) := by decide +kernel
theorem dX6_smallestClashByWays_15 : decode cX6_smallestClashByWays 15 = .ok (.iconst 1, 1) := by decide +kernel
theorem dX6_smallestClashByWays_16 : decode cX6_smallestClashByWays 16 = .ok (.istore_n 2, 1) := by decide +kernel
theorem dX6_smallestClashByWays_17 : decode cX6_smallestClashByWays 17 = .ok (.iload_n 2, 1) := by decide +kernel
theorem dX6_smallestClashByWays_18 : decode cX6_smallestClashByWays 18 = .ok (.bipush 10, 2) := by decide +kernel
theorem dX6_smallestClashByWays_20 : decode cX6_smallestClashByWays 20 = .ok (.if_icmp .gt 31, 3) := by decide +kernel
theorem dX6_smallestClashByWays_23 : decode cX6_smallestClashByWays 23 = .ok (.aload_n 0, 1) := by decide +kernel
theorem dX6_smallestClashByWays_24 : decode cX6_smallestClashByWays 24 = .ok (.getfield 10, 3) := by decide +kernel
theorem dX6_smallestClashByWays_27 : decode cX6_smallestClashByWays 27 = .ok (.iload_n 1, 1) := by decide +kernel
theorem dX6_smallestClashByWays_28 : decode cX6_smallestClashByWays 28 = .ok (.bipush 9, 2) := by decide +kernel
theorem dX6_smallestClashByWays_30 : decode cX6_smallestClashByWays 30 = .ok (.iload_n 2, 1) := by decide +kernel
theorem dX6_smallestClashByWays_31 : decode cX6_smallestClashByWays 31 = .ok (.ldc2_w 253, 3) := by decide +kernel
theorem dX6_smallestClashByWays_34 : decode cX6_smallestClashByWays 34 = .ok (.invokestatic 255, 3) := by decide +kernel
theorem dX6_smallestClashByWays_37 : decode cX6_smallestClashByWays 37 = .ok (.istore_n 3, 1) := by decide +kernel
theorem dX6_smallestClashByWays_38 : decode cX6_smallestClashByWays 38 = .ok (.iload_n 3, 1) := by decide +kernel
theorem dX6_smallestClashByWays_39 : decode cX6_smallestClashByWays 39 = .ok (.iconst (-1), 1) := by decide +kernel
theorem dX6_smallestClashByWays_40 : decode cX6_smallestClashByWays 40 = .ok (.if_icmp .eq 5, 3) := by decide +kernel
theorem dX6_smallestClashByWays_43 : decode cX6_smallestClashByWays 43 = .ok (.iload_n 3, 1) := by decide +kernel
theorem dX6_smallestClashByWays_44 : decode cX6_smallestClashByWays 44 = .ok (.ireturn, 1) := by decide +kernel
theorem dX6_smallestClashByWays_45 : decode cX6_smallestClashByWays 45 = .ok (.iinc 2 1, 3) := by decide +kernel
theorem dX6_smallestClashByWays_48 : decode cX6_smallestClashByWays 48 = .ok (.goto (-31), 3) := by decide +kernel
theorem dX6_smallestClashByWays_51 : decode cX6_smallestClashByWays 51 = .ok (.iconst (-1), 1) := by decide +kernel
theorem dX6_smallestClashByWays_52 : decode cX6_smallestClashByWays 52 = .ok (.ireturn, 1) := by decide +kernel
theorem dX6_narrowedClash_0 : decode cX6_narrowedClash 0 = .ok (.aload_n 0, 1) := by decide +kernel
theorem dX6_narrowedClash_1 : decode cX6_narrowedClash 1 = .ok (.getfield 10, 3) := by decide +kernel
theorem dX6_narrowedClash_4 : decode cX6_narrowedClash 4 = .ok (.aload_n 0, 1) := by decide +kernel
theorem dX6_narrowedClash_5 : decode cX6_narrowedClash 5 = .ok (.getfield 10, 3) := by decide +kernel
theorem dX6_narrowedClash_8 : decode cX6_narrowedClash 8 = .ok (.getfield 149, 3) := by decide +kernel
theorem dX6_narrowedClash_11 : decode cX6_narrowedClash 11 = .ok (.invokevirtual 181, 3) := by decide +kernel
theorem dX6_narrowedClash_14 : decode cX6_narrowedClash 14 = .ok (.istore_n 1, 1) := by decide +kernel
theorem dX6_narrowedClash_15 : decode cX6_narrowedClash 15 = .ok (.aload_n 0, 1) := by decide +kernel
theorem dX6_narrowedClash_16 : decode cX6_narrowedClash 16 = .ok (.getfield 10, 3) := by decide +kernel
theorem dX6_narrowedClash_19 : decode cX6_narrowedClash 19 = .ok (.iload_n 1, 1) := by decide +kernel
theorem dX6_narrowedClash_20 : decode cX6_narrowedClash 20 = .ok (.invokevirtual 202, 3) := by decide +kernel
theorem dX6_narrowedClash_23 : decode cX6_narrowedClash 23 = .ok (.lconst 0, 1) := by decide +kernel
theorem dX6_narrowedClash_24 : decode cX6_narrowedClash 24 = .ok (.lcmp, 1) := by decide +kernel
theorem dX6_narrowedClash_25 : decode cX6_narrowedClash 25 = .ok (.ifCond .eq 5, 3) := by decide +kernel
theorem dX6_narrowedClash_28 : decode cX6_narrowedClash 28 = .ok (.iconst (-1), 1) := by decide +kernel
theorem dX6_narrowedClash_29 : decode cX6_narrowedClash 29 = .ok (.ireturn, 1) := by decide +kernel
theorem dX6_narrowedClash_30 : decode cX6_narrowedClash 30 = .ok (.bipush 9, 2) := by decide +kernel
theorem dX6_narrowedClash_32 : decode cX6_narrowedClash 32 = .ok (.istore_n 2, 1) := by decide +kernel
theorem dX6_narrowedClash_33 : decode cX6_narrowedClash 33 = .ok (.iload_n 2, 1) := by decide +kernel
theorem dX6_narrowedClash_34 : decode cX6_narrowedClash 34 = .ok (.ifCond .lt 32, 3) := by decide +kernel
theorem dX6_narrowedClash_37 : decode cX6_narrowedClash 37 = .ok (.iload_n 1, 1) := by decide +kernel
theorem dX6_narrowedClash_38 : decode cX6_narrowedClash 38 = .ok (.iconst 1, 1) := by decide +kernel
theorem dX6_narrowedClash_39 : decode cX6_narrowedClash 39 = .ok (.iload_n 2, 1) := by decide +kernel
theorem dX6_narrowedClash_40 : decode cX6_narrowedClash 40 = .ok (.ishl, 1) := by decide +kernel
theorem dX6_narrowedClash_41 : decode cX6_narrowedClash 41 = .ok (.iconst (-1), 1) := by decide +kernel
theorem dX6_narrowedClash_42 : decode cX6_narrowedClash 42 = .ok (.ixor, 1) := by decide +kernel
theorem dX6_narrowedClash_43 : decode cX6_narrowedClash 43 = .ok (.iand, 1) := by decide +kernel
theorem dX6_narrowedClash_44 : decode cX6_narrowedClash 44 = .ok (.istore_n 3, 1) := by decide +kernel
theorem dX6_narrowedClash_45 : decode cX6_narrowedClash 45 = .ok (.aload_n 0, 1) := by decide +kernel
theorem dX6_narrowedClash_46 : decode cX6_narrowedClash 46 = .ok (.getfield 10, 3) := by decide +kernel
theorem dX6_narrowedClash_49 : decode cX6_narrowedClash 49 = .ok (.iload_n 3, 1) := by decide +kernel
theorem dX6_narrowedClash_50 : decode cX6_narrowedClash 50 = .ok (.invokevirtual 202, 3) := by decide +kernel
theorem dX6_narrowedClash_53 : decode cX6_narrowedClash 53 = .ok (.lconst 0, 1) := by decide +kernel
theorem dX6_narrowedClash_54 : decode cX6_narrowedClash 54 = .ok (.lcmp, 1) := by decide +kernel
theorem dX6_narrowedClash_55 : decode cX6_narrowedClash 55 = .ok (.ifCond .ne 5, 3) := by decide +kernel
theorem dX6_narrowedClash_58 : decode cX6_narrowedClash 58 = .ok (.iload_n 3, 1) := by decide +kernel
theorem dX6_narrowedClash_59 : decode cX6_narrowedClash 59 = .ok (.istore_n 1, 1) := by decide +kernel
theorem dX6_narrowedClash_60 : decode cX6_narrowedClash 60 = .ok (.iinc 2 (-1), 3) := by decide +kernel
theorem dX6_narrowedClash_63 : decode cX6_narrowedClash 63 = .ok (.goto (-30), 3) := by decide +kernel
theorem dX6_narrowedClash_66 : decode cX6_narrowedClash 66 = .ok (.iload_n 1, 1) := by decide +kernel
theorem dX6_narrowedClash_67 : decode cX6_narrowedClash 67 = .ok (.ireturn, 1) := by decide +kernel
theorem dX6_narrowClashes_0 : decode cX6_narrowClashes 0 = .ok (.aload_n 0, 1) := by decide +kernel
theorem dX6_narrowClashes_1 : decode cX6_narrowClashes 1 = .ok (.getfield 10, 3) := by decide +kernel
theorem dX6_narrowClashes_4 : decode cX6_narrowClashes 4 = .ok (.aload_n 0, 1) := by decide +kernel
theorem dX6_narrowClashes_5 : decode cX6_narrowClashes 5 = .ok (.getfield 10, 3) := by decide +kernel
theorem dX6_narrowClashes_8 : decode cX6_narrowClashes 8 = .ok (.getfield 149, 3) := by decide +kernel
theorem dX6_narrowClashes_11 : decode cX6_narrowClashes 11 = .ok (.invokevirtual 181, 3) := by decide +kernel
theorem dX6_narrowClashes_14 : decode cX6_narrowClashes 14 = .ok (.istore_n 1, 1) := by decide +kernel
theorem dX6_narrowClashes_15 : decode cX6_narrowClashes 15 = .ok (.aload_n 0, 1) := by decide +kernel
theorem dX6_narrowClashes_16 : decode cX6_narrowClashes 16 = .ok (.getfield 55, 3) := by decide +kernel
theorem dX6_narrowClashes_19 : decode cX6_narrowClashes 19 = .ok (.aload_n 0, 1) := by decide +kernel
theorem dX6_narrowClashes_20 : decode cX6_narrowClashes 20 = .ok (.getfield 10, 3) := by decide +kernel
theorem dX6_narrowClashes_23 : decode cX6_narrowClashes 23 = .ok (.invokevirtual 238, 3) := by decide +kernel
theorem dX6_narrowClashes_26 : decode cX6_narrowClashes 26 = .ok (.iconst 0, 1) := by decide +kernel
theorem dX6_narrowClashes_27 : decode cX6_narrowClashes 27 = .ok (.istore_n 2, 1) := by decide +kernel
theorem dX6_narrowClashes_28 : decode cX6_narrowClashes 28 = .ok (.iconst 1, 1) := by decide +kernel
theorem dX6_narrowClashes_29 : decode cX6_narrowClashes 29 = .ok (.istore_n 3, 1) := by decide +kernel
theorem dX6_narrowClashes_30 : decode cX6_narrowClashes 30 = .ok (.iload_n 3, 1) := by decide +kernel
theorem dX6_narrowClashes_31 : decode cX6_narrowClashes 31 = .ok (.iload_n 1, 1) := by decide +kernel
theorem dX6_narrowClashes_32 : decode cX6_narrowClashes 32 = .ok (.if_icmp .gt 31, 3) := by decide +kernel
theorem dX6_narrowClashes_35 : decode cX6_narrowClashes 35 = .ok (.iload_n 3, 1) := by decide +kernel
theorem dX6_narrowClashes_36 : decode cX6_narrowClashes 36 = .ok (.iload_n 1, 1) := by decide +kernel
theorem dX6_narrowClashes_37 : decode cX6_narrowClashes 37 = .ok (.invokestatic 241, 3) := by decide +kernel
theorem dX6_narrowClashes_40 : decode cX6_narrowClashes 40 = .ok (.ifCond .eq 17, 3) := by decide +kernel
theorem dX6_narrowClashes_43 : decode cX6_narrowClashes 43 = .ok (.aload_n 0, 1) := by decide +kernel
theorem dX6_narrowClashes_44 : decode cX6_narrowClashes 44 = .ok (.getfield 55, 3) := by decide +kernel
theorem dX6_narrowClashes_47 : decode cX6_narrowClashes 47 = .ok (.iload_n 3, 1) := by decide +kernel
theorem dX6_narrowClashes_48 : decode cX6_narrowClashes 48 = .ok (.invokevirtual 259, 3) := by decide +kernel
theorem dX6_narrowClashes_51 : decode cX6_narrowClashes 51 = .ok (.ifCond .eq 6, 3) := by decide +kernel
theorem dX6_narrowClashes_54 : decode cX6_narrowClashes 54 = .ok (.iinc 2 1, 3) := by decide +kernel
theorem dX6_narrowClashes_57 : decode cX6_narrowClashes 57 = .ok (.iinc 3 1, 3) := by decide +kernel
theorem dX6_narrowClashes_60 : decode cX6_narrowClashes 60 = .ok (.goto (-30), 3) := by decide +kernel
theorem dX6_narrowClashes_63 : decode cX6_narrowClashes 63 = .ok (.iload_n 2, 1) := by decide +kernel
theorem dX6_narrowClashes_64 : decode cX6_narrowClashes 64 = .ok (.ireturn, 1) := by decide +kernel
theorem dX6_fewestWaivers_0 : decode cX6_fewestWaivers 0 = .ok (.aload_n 0, 1) := by decide +kernel
theorem dX6_fewestWaivers_1 : decode cX6_fewestWaivers 1 = .ok (.getfield 10, 3) := by decide +kernel
theorem dX6_fewestWaivers_4 : decode cX6_fewestWaivers 4 = .ok (.iconst 0, 1) := by decide +kernel
theorem dX6_fewestWaivers_5 : decode cX6_fewestWaivers 5 = .ok (.aload_n 0, 1) := by decide +kernel
theorem dX6_fewestWaivers_6 : decode cX6_fewestWaivers 6 = .ok (.getfield 10, 3) := by decide +kernel
theorem dX6_fewestWaivers_9 : decode cX6_fewestWaivers 9 = .ok (.getfield 149, 3) := by decide +kernel
theorem dX6_fewestWaivers_12 : decode cX6_fewestWaivers 12 = .ok (.invokevirtual 184, 3) := by decide +kernel
theorem dX6_fewestWaivers_15 : decode cX6_fewestWaivers 15 = .ok (.istore_n 1, 1) := by decide +kernel
theorem dX6_fewestWaivers_16 : decode cX6_fewestWaivers 16 = .ok (.iconst 1, 1) := by decide +kernel
theorem dX6_fewestWaivers_17 : decode cX6_fewestWaivers 17 = .ok (.istore_n 2, 1) := by decide +kernel
theorem dX6_fewestWaivers_18 : decode cX6_fewestWaivers 18 = .ok (.iload_n 2, 1) := by decide +kernel
theorem dX6_fewestWaivers_19 : decode cX6_fewestWaivers 19 = .ok (.bipush 64, 2) := by decide +kernel
theorem dX6_fewestWaivers_21 : decode cX6_fewestWaivers 21 = .ok (.if_icmp .ge 55, 3) := by decide +kernel
theorem dX6_fewestWaivers_24 : decode cX6_fewestWaivers 24 = .ok (.aload_n 0, 1) := by decide +kernel
theorem dX6_fewestWaivers_25 : decode cX6_fewestWaivers 25 = .ok (.getfield 10, 3) := by decide +kernel
theorem dX6_fewestWaivers_28 : decode cX6_fewestWaivers 28 = .ok (.iload_n 2, 1) := by decide +kernel
theorem dX6_fewestWaivers_29 : decode cX6_fewestWaivers 29 = .ok (.aload_n 0, 1) := by decide +kernel
theorem dX6_fewestWaivers_30 : decode cX6_fewestWaivers 30 = .ok (.getfield 10, 3) := by decide +kernel
theorem dX6_fewestWaivers_33 : decode cX6_fewestWaivers 33 = .ok (.getfield 149, 3) := by decide +kernel
theorem dX6_fewestWaivers_36 : decode cX6_fewestWaivers 36 = .ok (.invokevirtual 184, 3) := by decide +kernel
theorem dX6_fewestWaivers_39 : decode cX6_fewestWaivers 39 = .ok (.istore_n 3, 1) := by decide +kernel
theorem dX6_fewestWaivers_40 : decode cX6_fewestWaivers 40 = .ok (.iload_n 3, 1) := by decide +kernel
theorem dX6_fewestWaivers_41 : decode cX6_fewestWaivers 41 = .ok (.invokestatic 248, 3) := by decide +kernel
theorem dX6_fewestWaivers_44 : decode cX6_fewestWaivers 44 = .ok (.iload_n 1, 1) := by decide +kernel
theorem dX6_fewestWaivers_45 : decode cX6_fewestWaivers 45 = .ok (.invokestatic 248, 3) := by decide +kernel
theorem dX6_fewestWaivers_48 : decode cX6_fewestWaivers 48 = .ok (.invokestatic 262, 3) := by decide +kernel
theorem dX6_fewestWaivers_51 : decode cX6_fewestWaivers 51 = .ok (.istore 4, 2) := by decide +kernel
theorem dX6_fewestWaivers_53 : decode cX6_fewestWaivers 53 = .ok (.iload 4, 2) := by decide +kernel
theorem dX6_fewestWaivers_55 : decode cX6_fewestWaivers 55 = .ok (.ifCond .lt 13, 3) := by decide +kernel
theorem dX6_fewestWaivers_58 : decode cX6_fewestWaivers 58 = .ok (.iload 4, 2) := by decide +kernel
theorem dX6_fewestWaivers_60 : decode cX6_fewestWaivers 60 = .ok (.ifCond .ne 10, 3) := by decide +kernel
theorem dX6_fewestWaivers_63 : decode cX6_fewestWaivers 63 = .ok (.iload_n 3, 1) := by decide +kernel
theorem dX6_fewestWaivers_64 : decode cX6_fewestWaivers 64 = .ok (.iload_n 1, 1) := by decide +kernel
theorem dX6_fewestWaivers_65 : decode cX6_fewestWaivers 65 = .ok (.if_icmp .ge 5, 3) := by decide +kernel
theorem dX6_fewestWaivers_68 : decode cX6_fewestWaivers 68 = .ok (.iload_n 3, 1) := by decide +kernel
theorem dX6_fewestWaivers_69 : decode cX6_fewestWaivers 69 = .ok (.istore_n 1, 1) := by decide +kernel
theorem dX6_fewestWaivers_70 : decode cX6_fewestWaivers 70 = .ok (.iinc 2 1, 3) := by decide +kernel
theorem dX6_fewestWaivers_73 : decode cX6_fewestWaivers 73 = .ok (.goto (-55), 3) := by decide +kernel
theorem dX6_fewestWaivers_76 : decode cX6_fewestWaivers 76 = .ok (.iload_n 1, 1) := by decide +kernel
theorem dX6_fewestWaivers_77 : decode cX6_fewestWaivers 77 = .ok (.ireturn, 1) := by decide +kernel
theorem dX6_fewestWaiversBySets_0 : decode cX6_fewestWaiversBySets 0 = .ok (.aload_n 0, 1) := by decide +kernel
theorem dX6_fewestWaiversBySets_1 : decode cX6_fewestWaiversBySets 1 = .ok (.getfield 10, 3) := by decide +kernel
theorem dX6_fewestWaiversBySets_4 : decode cX6_fewestWaiversBySets 4 = .ok (.aload_n 0, 1) := by decide +kernel
theorem dX6_fewestWaiversBySets_5 : decode cX6_fewestWaiversBySets 5 = .ok (.getfield 10, 3) := by decide +kernel
theorem dX6_fewestWaiversBySets_8 : decode cX6_fewestWaiversBySets 8 = .ok (.getfield 149, 3) := by decide +kernel
theorem dX6_fewestWaiversBySets_11 : decode cX6_fewestWaiversBySets 11 = .ok (.invokevirtual 181, 3) := by decide +kernel
theorem dX6_fewestWaiversBySets_14 : decode cX6_fewestWaiversBySets 14 = .ok (.istore_n 1, 1) := by decide +kernel
theorem dX6_fewestWaiversBySets_15 : decode cX6_fewestWaiversBySets 15 = .ok (.aload_n 0, 1) := by decide +kernel
theorem dX6_fewestWaiversBySets_16 : decode cX6_fewestWaiversBySets 16 = .ok (.getfield 55, 3) := by decide +kernel
theorem dX6_fewestWaiversBySets_19 : decode cX6_fewestWaiversBySets 19 = .ok (.aload_n 0, 1) := by decide +kernel
theorem dX6_fewestWaiversBySets_20 : decode cX6_fewestWaiversBySets 20 = .ok (.getfield 10, 3) := by decide +kernel
theorem dX6_fewestWaiversBySets_23 : decode cX6_fewestWaiversBySets 23 = .ok (.invokevirtual 238, 3) := by decide +kernel
theorem dX6_fewestWaiversBySets_26 : decode cX6_fewestWaiversBySets 26 = .ok (.iload_n 1, 1) := by decide +kernel
theorem dX6_fewestWaiversBySets_27 : decode cX6_fewestWaiversBySets 27 = .ok (.istore_n 2, 1) := by decide +kernel
theorem dX6_fewestWaiversBySets_28 : decode cX6_fewestWaiversBySets 28 = .ok (.iconst 0, 1) := by decide +kernel
theorem dX6_fewestWaiversBySets_29 : decode cX6_fewestWaiversBySets 29 = .ok (.istore_n 3, 1) := by decide +kernel
theorem dX6_fewestWaiversBySets_30 : decode cX6_fewestWaiversBySets 30 = .ok (.iload_n 3, 1) := by decide +kernel
theorem dX6_fewestWaiversBySets_31 : decode cX6_fewestWaiversBySets 31 = .ok (.iload_n 1, 1) := by decide +kernel
theorem dX6_fewestWaiversBySets_32 : decode cX6_fewestWaiversBySets 32 = .ok (.if_icmp .gt 59, 3) := by decide +kernel
theorem dX6_fewestWaiversBySets_35 : decode cX6_fewestWaiversBySets 35 = .ok (.iload_n 3, 1) := by decide +kernel
theorem dX6_fewestWaiversBySets_36 : decode cX6_fewestWaiversBySets 36 = .ok (.iload_n 1, 1) := by decide +kernel
theorem dX6_fewestWaiversBySets_37 : decode cX6_fewestWaiversBySets 37 = .ok (.invokestatic 241, 3) := by decide +kernel
theorem dX6_fewestWaiversBySets_40 : decode cX6_fewestWaiversBySets 40 = .ok (.ifCond .eq 24, 3) := by decide +kernel
theorem dX6_fewestWaiversBySets_43 : decode cX6_fewestWaiversBySets 43 = .ok (.aload_n 0, 1) := by decide +kernel
theorem dX6_fewestWaiversBySets_44 : decode cX6_fewestWaiversBySets 44 = .ok (.getfield 55, 3) := by decide +kernel
theorem dX6_fewestWaiversBySets_47 : decode cX6_fewestWaiversBySets 47 = .ok (.iload_n 1, 1) := by decide +kernel
theorem dX6_fewestWaiversBySets_48 : decode cX6_fewestWaiversBySets 48 = .ok (.iload_n 3, 1) := by decide +kernel
theorem dX6_fewestWaiversBySets_49 : decode cX6_fewestWaiversBySets 49 = .ok (.iconst (-1), 1) := by decide +kernel
theorem dX6_fewestWaiversBySets_50 : decode cX6_fewestWaiversBySets 50 = .ok (.ixor, 1) := by decide +kernel
theorem dX6_fewestWaiversBySets_51 : decode cX6_fewestWaiversBySets 51 = .ok (.iand, 1) := by decide +kernel
theorem dX6_fewestWaiversBySets_52 : decode cX6_fewestWaiversBySets 52 = .ok (.invokevirtual 245, 3) := by decide +kernel
theorem dX6_fewestWaiversBySets_55 : decode cX6_fewestWaiversBySets 55 = .ok (.lconst 0, 1) := by decide +kernel
theorem dX6_fewestWaiversBySets_56 : decode cX6_fewestWaiversBySets 56 = .ok (.lcmp, 1) := by decide +kernel
theorem dX6_fewestWaiversBySets_57 : decode cX6_fewestWaiversBySets 57 = .ok (.ifCond .eq 7, 3) := by decide +kernel
theorem dX6_fewestWaiversBySets_60 : decode cX6_fewestWaiversBySets 60 = .ok (.iconst 1, 1) := by decide +kernel
theorem dX6_fewestWaiversBySets_61 : decode cX6_fewestWaiversBySets 61 = .ok (.goto 4, 3) := by decide +kernel
theorem dX6_fewestWaiversBySets_64 : decode cX6_fewestWaiversBySets 64 = .ok (.iconst 0, 1) := by decide +kernel
theorem dX6_fewestWaiversBySets_65 : decode cX6_fewestWaiversBySets 65 = .ok (.istore 4, 2) := by decide +kernel
theorem dX6_fewestWaiversBySets_67 : decode cX6_fewestWaiversBySets 67 = .ok (.iload 4, 2) := by decide +kernel
theorem dX6_fewestWaiversBySets_69 : decode cX6_fewestWaiversBySets 69 = .ok (.ifCond .eq 16, 3) := by decide +kernel
theorem dX6_fewestWaiversBySets_72 : decode cX6_fewestWaiversBySets 72 = .ok (.iload_n 3, 1) := by decide +kernel
theorem dX6_fewestWaiversBySets_73 : decode cX6_fewestWaiversBySets 73 = .ok (.invokestatic 248, 3) := by decide +kernel
theorem dX6_fewestWaiversBySets_76 : decode cX6_fewestWaiversBySets 76 = .ok (.iload_n 2, 1) := by decide +kernel
theorem dX6_fewestWaiversBySets_77 : decode cX6_fewestWaiversBySets 77 = .ok (.invokestatic 248, 3) := by decide +kernel
theorem dX6_fewestWaiversBySets_80 : decode cX6_fewestWaiversBySets 80 = .ok (.if_icmp .ge 5, 3) := by decide +kernel
theorem dX6_fewestWaiversBySets_83 : decode cX6_fewestWaiversBySets 83 = .ok (.iload_n 3, 1) := by decide +kernel
theorem dX6_fewestWaiversBySets_84 : decode cX6_fewestWaiversBySets 84 = .ok (.istore_n 2, 1) := by decide +kernel
theorem dX6_fewestWaiversBySets_85 : decode cX6_fewestWaiversBySets 85 = .ok (.iinc 3 1, 3) := by decide +kernel
theorem dX6_fewestWaiversBySets_88 : decode cX6_fewestWaiversBySets 88 = .ok (.goto (-58), 3) := by decide +kernel
theorem dX6_fewestWaiversBySets_91 : decode cX6_fewestWaiversBySets 91 = .ok (.iload_n 2, 1) := by decide +kernel
theorem dX6_fewestWaiversBySets_92 : decode cX6_fewestWaiversBySets 92 = .ok (.ireturn, 1) := by decide +kernel
theorem dX6_turnsToPeace_0 : decode cX6_turnsToPeace 0 = .ok (.aload_n 0, 1) := by decide +kernel
theorem dX6_turnsToPeace_1 : decode cX6_turnsToPeace 1 = .ok (.getfield 10, 3) := by decide +kernel
theorem dX6_turnsToPeace_4 : decode cX6_turnsToPeace 4 = .ok (.invokevirtual 221, 3) := by decide +kernel
theorem dX6_turnsToPeace_7 : decode cX6_turnsToPeace 7 = .ok (.lstore_n 1, 1) := by decide +kernel
theorem dX6_turnsToPeace_8 : decode cX6_turnsToPeace 8 = .ok (.iconst (-1), 1) := by decide +kernel
theorem dX6_turnsToPeace_9 : decode cX6_turnsToPeace 9 = .ok (.istore_n 3, 1) := by decide +kernel
theorem dX6_turnsToPeace_10 : decode cX6_turnsToPeace 10 = .ok (.iconst 0, 1) := by decide +kernel
theorem dX6_turnsToPeace_11 : decode cX6_turnsToPeace 11 = .ok (.istore 4, 2) := by decide +kernel
theorem dX6_turnsToPeace_13 : decode cX6_turnsToPeace 13 = .ok (.iload 4, 2) := by decide +kernel
theorem dX6_turnsToPeace_15 : decode cX6_turnsToPeace 15 = .ok (.bipush 64, 2) := by decide +kernel
theorem dX6_turnsToPeace_17 : decode cX6_turnsToPeace 17 = .ok (.if_icmp .ge 47, 3) := by decide +kernel
theorem dX6_turnsToPeace_20 : decode cX6_turnsToPeace 20 = .ok (.iload 4, 2) := by decide +kernel
theorem dX6_turnsToPeace_22 : decode cX6_turnsToPeace 22 = .ok (.aload_n 0, 1) := by decide +kernel
theorem dX6_turnsToPeace_23 : decode cX6_turnsToPeace 23 = .ok (.getfield 10, 3) := by decide +kernel
theorem dX6_turnsToPeace_26 : decode cX6_turnsToPeace 26 = .ok (.getfield 178, 3) := by decide +kernel
theorem dX6_turnsToPeace_29 : decode cX6_turnsToPeace 29 = .ok (.ixor, 1) := by decide +kernel
theorem dX6_turnsToPeace_30 : decode cX6_turnsToPeace 30 = .ok (.invokestatic 248, 3) := by decide +kernel
theorem dX6_turnsToPeace_33 : decode cX6_turnsToPeace 33 = .ok (.istore 5, 2) := by decide +kernel
theorem dX6_turnsToPeace_35 : decode cX6_turnsToPeace 35 = .ok (.lload_n 1, 1) := by decide +kernel
theorem dX6_turnsToPeace_36 : decode cX6_turnsToPeace 36 = .ok (.iload 4, 2) := by decide +kernel
theorem dX6_turnsToPeace_38 : decode cX6_turnsToPeace 38 = .ok (.invokestatic 225, 3) := by decide +kernel
theorem dX6_turnsToPeace_41 : decode cX6_turnsToPeace 41 = .ok (.ifCond .eq 17, 3) := by decide +kernel
theorem dX6_turnsToPeace_44 : decode cX6_turnsToPeace 44 = .ok (.iload_n 3, 1) := by decide +kernel
theorem dX6_turnsToPeace_45 : decode cX6_turnsToPeace 45 = .ok (.iconst (-1), 1) := by decide +kernel
theorem dX6_turnsToPeace_46 : decode cX6_turnsToPeace 46 = .ok (.if_icmp .eq 9, 3) := by decide +kernel
theorem dX6_turnsToPeace_49 : decode cX6_turnsToPeace 49 = .ok (.iload 5, 2) := by decide +kernel
theorem dX6_turnsToPeace_51 : decode cX6_turnsToPeace 51 = .ok (.iload_n 3, 1) := by decide +kernel
theorem dX6_turnsToPeace_52 : decode cX6_turnsToPeace 52 = .ok (.if_icmp .ge 6, 3) := by decide +kernel
theorem dX6_turnsToPeace_55 : decode cX6_turnsToPeace 55 = .ok (.iload 5, 2) := by decide +kernel
theorem dX6_turnsToPeace_57 : decode cX6_turnsToPeace 57 = .ok (.istore_n 3, 1) := by decide +kernel
theorem dX6_turnsToPeace_58 : decode cX6_turnsToPeace 58 = .ok (.iinc 4 1, 3) := by decide +kernel
theorem dX6_turnsToPeace_61 : decode cX6_turnsToPeace 61 = .ok (.goto (-48), 3) := by decide +kernel
theorem dX6_turnsToPeace_64 : decode cX6_turnsToPeace 64 = .ok (.iload_n 3, 1) := by decide +kernel
theorem dX6_turnsToPeace_65 : decode cX6_turnsToPeace 65 = .ok (.ireturn, 1) := by decide +kernel
theorem dX6_turnsToPeaceByGoing_0 : decode cX6_turnsToPeaceByGoing 0 = .ok (.aload_n 0, 1) := by decide +kernel
theorem dX6_turnsToPeaceByGoing_1 : decode cX6_turnsToPeaceByGoing 1 = .ok (.getfield 10, 3) := by decide +kernel
theorem dX6_turnsToPeaceByGoing_4 : decode cX6_turnsToPeaceByGoing 4 = .ok (.invokevirtual 221, 3) := by decide +kernel
theorem dX6_turnsToPeaceByGoing_7 : decode cX6_turnsToPeaceByGoing 7 = .ok (.lstore_n 1, 1) := by decide +kernel
theorem dX6_turnsToPeaceByGoing_8 : decode cX6_turnsToPeaceByGoing 8 = .ok (.lconst 1, 1) := by decide +kernel
theorem dX6_turnsToPeaceByGoing_9 : decode cX6_turnsToPeaceByGoing 9 = .ok (.aload_n 0, 1) := by decide +kernel
theorem dX6_turnsToPeaceByGoing_10 : decode cX6_turnsToPeaceByGoing 10 = .ok (.getfield 10, 3) := by decide +kernel
theorem dX6_turnsToPeaceByGoing_13 : decode cX6_turnsToPeaceByGoing 13 = .ok (.getfield 178, 3) := by decide +kernel
theorem dX6_turnsToPeaceByGoing_16 : decode cX6_turnsToPeaceByGoing 16 = .ok (.lshl, 1) := by decide +kernel
theorem dX6_turnsToPeaceByGoing_17 : decode cX6_turnsToPeaceByGoing 17 = .ok (.lstore_n 3, 1) := by decide +kernel
theorem dX6_turnsToPeaceByGoing_18 : decode cX6_turnsToPeaceByGoing 18 = .ok (.iconst 0, 1) := by decide +kernel
theorem dX6_turnsToPeaceByGoing_19 : decode cX6_turnsToPeaceByGoing 19 = .ok (.istore 5, 2) := by decide +kernel
theorem dX6_turnsToPeaceByGoing_21 : decode cX6_turnsToPeaceByGoing 21 = .ok (.iload 5, 2) := by decide +kernel
theorem dX6_turnsToPeaceByGoing_23 : decode cX6_turnsToPeaceByGoing 23 = .ok (.bipush 6, 2) := by decide +kernel
theorem dX6_turnsToPeaceByGoing_25 : decode cX6_turnsToPeaceByGoing 25 = .ok (.if_icmp .gt 25, 3) := by decide +kernel
theorem dX6_turnsToPeaceByGoing_28 : decode cX6_turnsToPeaceByGoing 28 = .ok (.lload_n 3, 1) := by decide +kernel
theorem dX6_turnsToPeaceByGoing_29 : decode cX6_turnsToPeaceByGoing 29 = .ok (.lload_n 1, 1) := by decide +kernel
theorem dX6_turnsToPeaceByGoing_30 : decode cX6_turnsToPeaceByGoing 30 = .ok (.land, 1) := by decide +kernel
theorem dX6_turnsToPeaceByGoing_31 : decode cX6_turnsToPeaceByGoing 31 = .ok (.lconst 0, 1) := by decide +kernel
theorem dX6_turnsToPeaceByGoing_32 : decode cX6_turnsToPeaceByGoing 32 = .ok (.lcmp, 1) := by decide +kernel
theorem dX6_turnsToPeaceByGoing_33 : decode cX6_turnsToPeaceByGoing 33 = .ok (.ifCond .eq 6, 3) := by decide +kernel
theorem dX6_turnsToPeaceByGoing_36 : decode cX6_turnsToPeaceByGoing 36 = .ok (.iload 5, 2) := by decide +kernel
theorem dX6_turnsToPeaceByGoing_38 : decode cX6_turnsToPeaceByGoing 38 = .ok (.ireturn, 1) := by decide +kernel
theorem dX6_turnsToPeaceByGoing_39 : decode cX6_turnsToPeaceByGoing 39 = .ok (.lload_n 3, 1) := by decide +kernel
theorem dX6_turnsToPeaceByGoing_40 : decode cX6_turnsToPeaceByGoing 40 = .ok (.invokestatic 265, 3) := by decide +kernel
theorem dX6_turnsToPeaceByGoing_43 : decode cX6_turnsToPeaceByGoing 43 = .ok (.lstore_n 3, 1) := by decide +kernel
theorem dX6_turnsToPeaceByGoing_44 : decode cX6_turnsToPeaceByGoing 44 = .ok (.iinc 5 1, 3) := by decide +kernel
theorem dX6_turnsToPeaceByGoing_47 : decode cX6_turnsToPeaceByGoing 47 = .ok (.goto (-26), 3) := by decide +kernel
theorem dX6_turnsToPeaceByGoing_50 : decode cX6_turnsToPeaceByGoing 50 = .ok (.iconst (-1), 1) := by decide +kernel
theorem dX6_turnsToPeaceByGoing_51 : decode cX6_turnsToPeaceByGoing 51 = .ok (.ireturn, 1) := by decide +kernel
theorem dX6_nightNow_0 : decode cX6_nightNow 0 = .ok (.aload_n 0, 1) := by decide +kernel
theorem dX6_nightNow_1 : decode cX6_nightNow 1 = .ok (.getfield 10, 3) := by decide +kernel
theorem dX6_nightNow_4 : decode cX6_nightNow 4 = .ok (.aload_n 0, 1) := by decide +kernel
theorem dX6_nightNow_5 : decode cX6_nightNow 5 = .ok (.getfield 10, 3) := by decide +kernel
theorem dX6_nightNow_8 : decode cX6_nightNow 8 = .ok (.getfield 178, 3) := by decide +kernel
theorem dX6_nightNow_11 : decode cX6_nightNow 11 = .ok (.aload_n 0, 1) := by decide +kernel
theorem dX6_nightNow_12 : decode cX6_nightNow 12 = .ok (.getfield 10, 3) := by decide +kernel
theorem dX6_nightNow_15 : decode cX6_nightNow 15 = .ok (.getfield 149, 3) := by decide +kernel
theorem dX6_nightNow_18 : decode cX6_nightNow 18 = .ok (.invokevirtual 269, 3) := by decide +kernel
theorem dX6_nightNow_21 : decode cX6_nightNow 21 = .ok (.ireturn, 1) := by decide +kernel
theorem dX6_cheapestNight_0 : decode cX6_cheapestNight 0 = .ok (.aload_n 0, 1) := by decide +kernel
theorem dX6_cheapestNight_1 : decode cX6_cheapestNight 1 = .ok (.getfield 10, 3) := by decide +kernel
theorem dX6_cheapestNight_4 : decode cX6_cheapestNight 4 = .ok (.aload_n 0, 1) := by decide +kernel
theorem dX6_cheapestNight_5 : decode cX6_cheapestNight 5 = .ok (.getfield 10, 3) := by decide +kernel
theorem dX6_cheapestNight_8 : decode cX6_cheapestNight 8 = .ok (.getfield 149, 3) := by decide +kernel
theorem dX6_cheapestNight_11 : decode cX6_cheapestNight 11 = .ok (.invokevirtual 181, 3) := by decide +kernel
theorem dX6_cheapestNight_14 : decode cX6_cheapestNight 14 = .ok (.istore_n 1, 1) := by decide +kernel
theorem dX6_cheapestNight_15 : decode cX6_cheapestNight 15 = .ok (.aload_n 0, 1) := by decide +kernel
theorem dX6_cheapestNight_16 : decode cX6_cheapestNight 16 = .ok (.getfield 10, 3) := by decide +kernel
theorem dX6_cheapestNight_19 : decode cX6_cheapestNight 19 = .ok (.iload_n 1, 1) := by decide +kernel
theorem dX6_cheapestNight_20 : decode cX6_cheapestNight 20 = .ok (.iconst 0, 1) := by decide +kernel
theorem dX6_cheapestNight_21 : decode cX6_cheapestNight 21 = .ok (.iconst 0, 1) := by decide +kernel
theorem dX6_cheapestNight_22 : decode cX6_cheapestNight 22 = .ok (.iconst 0, 1) := by decide +kernel
theorem dX6_cheapestNight_23 : decode cX6_cheapestNight 23 = .ok (.aload_n 0, 1) := by decide +kernel
theorem dX6_cheapestNight_24 : decode cX6_cheapestNight 24 = .ok (.getfield 10, 3) := by decide +kernel
theorem dX6_cheapestNight_27 : decode cX6_cheapestNight 27 = .ok (.iload_n 1, 1) := by decide +kernel
theorem dX6_cheapestNight_28 : decode cX6_cheapestNight 28 = .ok (.invokevirtual 272, 3) := by decide +kernel
theorem dX6_cheapestNight_31 : decode cX6_cheapestNight 31 = .ok (.invokestatic 275, 3) := by decide +kernel
theorem dX6_cheapestNight_34 : decode cX6_cheapestNight 34 = .ok (.ireturn, 1) := by decide +kernel
theorem dX6_bestTurn_0 : decode cX6_bestTurn 0 = .ok (.iconst (-1), 1) := by decide +kernel
theorem dX6_bestTurn_1 : decode cX6_bestTurn 1 = .ok (.istore_n 1, 1) := by decide +kernel
theorem dX6_bestTurn_2 : decode cX6_bestTurn 2 = .ok (.aload_n 0, 1) := by decide +kernel
theorem dX6_bestTurn_3 : decode cX6_bestTurn 3 = .ok (.getfield 10, 3) := by decide +kernel
theorem dX6_bestTurn_6 : decode cX6_bestTurn 6 = .ok (.aload_n 0, 1) := by decide +kernel
theorem dX6_bestTurn_7 : decode cX6_bestTurn 7 = .ok (.getfield 10, 3) := by decide +kernel
theorem dX6_bestTurn_10 : decode cX6_bestTurn 10 = .ok (.getfield 178, 3) := by decide +kernel
theorem dX6_bestTurn_13 : decode cX6_bestTurn 13 = .ok (.aload_n 0, 1) := by decide +kernel
theorem dX6_bestTurn_14 : decode cX6_bestTurn 14 = .ok (.getfield 10, 3) := by decide +kernel
theorem dX6_bestTurn_17 : decode cX6_bestTurn 17 = .ok (.getfield 149, 3) := by decide +kernel
theorem dX6_bestTurn_20 : decode cX6_bestTurn 20 = .ok (.invokevirtual 269, 3) := by decide +kernel
theorem dX6_bestTurn_23 : decode cX6_bestTurn 23 = .ok (.istore_n 2, 1) := by decide +kernel
theorem dX6_bestTurn_24 : decode cX6_bestTurn 24 = .ok (.iconst 0, 1) := by decide +kernel
theorem dX6_bestTurn_25 : decode cX6_bestTurn 25 = .ok (.istore_n 3, 1) := by decide +kernel
theorem dX6_bestTurn_26 : decode cX6_bestTurn 26 = .ok (.iload_n 3, 1) := by decide +kernel
theorem dX6_bestTurn_27 : decode cX6_bestTurn 27 = .ok (.bipush 6, 2) := by decide +kernel
theorem dX6_bestTurn_29 : decode cX6_bestTurn 29 = .ok (.if_icmp .ge 59, 3) := by decide +kernel
theorem dX6_bestTurn_32 : decode cX6_bestTurn 32 = .ok (.aload_n 0, 1) := by decide +kernel
theorem dX6_bestTurn_33 : decode cX6_bestTurn 33 = .ok (.getfield 10, 3) := by decide +kernel
theorem dX6_bestTurn_36 : decode cX6_bestTurn 36 = .ok (.aload_n 0, 1) := by decide +kernel
theorem dX6_bestTurn_37 : decode cX6_bestTurn 37 = .ok (.getfield 10, 3) := by decide +kernel
theorem dX6_bestTurn_40 : decode cX6_bestTurn 40 = .ok (.getfield 178, 3) := by decide +kernel
theorem dX6_bestTurn_43 : decode cX6_bestTurn 43 = .ok (.iconst 1, 1) := by decide +kernel
theorem dX6_bestTurn_44 : decode cX6_bestTurn 44 = .ok (.iload_n 3, 1) := by decide +kernel
theorem dX6_bestTurn_45 : decode cX6_bestTurn 45 = .ok (.ishl, 1) := by decide +kernel
theorem dX6_bestTurn_46 : decode cX6_bestTurn 46 = .ok (.ixor, 1) := by decide +kernel
theorem dX6_bestTurn_47 : decode cX6_bestTurn 47 = .ok (.aload_n 0, 1) := by decide +kernel
theorem dX6_bestTurn_48 : decode cX6_bestTurn 48 = .ok (.getfield 10, 3) := by decide +kernel
theorem dX6_bestTurn_51 : decode cX6_bestTurn 51 = .ok (.getfield 149, 3) := by decide +kernel
theorem dX6_bestTurn_54 : decode cX6_bestTurn 54 = .ok (.invokevirtual 269, 3) := by decide +kernel
theorem dX6_bestTurn_57 : decode cX6_bestTurn 57 = .ok (.istore 4, 2) := by decide +kernel
theorem dX6_bestTurn_59 : decode cX6_bestTurn 59 = .ok (.iload 4, 2) := by decide +kernel
theorem dX6_bestTurn_61 : decode cX6_bestTurn 61 = .ok (.iload_n 2, 1) := by decide +kernel
theorem dX6_bestTurn_62 : decode cX6_bestTurn 62 = .ok (.if_icmp .ge 20, 3) := by decide +kernel
theorem dX6_bestTurn_65 : decode cX6_bestTurn 65 = .ok (.aload_n 0, 1) := by decide +kernel
theorem dX6_bestTurn_66 : decode cX6_bestTurn 66 = .ok (.getfield 10, 3) := by decide +kernel
theorem dX6_bestTurn_69 : decode cX6_bestTurn 69 = .ok (.iload_n 3, 1) := by decide +kernel
theorem dX6_bestTurn_70 : decode cX6_bestTurn 70 = .ok (.invokevirtual 187, 3) := by decide +kernel
theorem dX6_bestTurn_73 : decode cX6_bestTurn 73 = .ok (.iconst (-1), 1) := by decide +kernel
theorem dX6_bestTurn_74 : decode cX6_bestTurn 74 = .ok (.if_icmp .ne 8, 3) := by decide +kernel
theorem dX6_bestTurn_77 : decode cX6_bestTurn 77 = .ok (.iload_n 3, 1) := by decide +kernel
theorem dX6_bestTurn_78 : decode cX6_bestTurn 78 = .ok (.istore_n 1, 1) := by decide +kernel
theorem dX6_bestTurn_79 : decode cX6_bestTurn 79 = .ok (.iload 4, 2) := by decide +kernel
theorem dX6_bestTurn_81 : decode cX6_bestTurn 81 = .ok (.istore_n 2, 1) := by decide +kernel
theorem dX6_bestTurn_82 : decode cX6_bestTurn 82 = .ok (.iinc 3 1, 3) := by decide +kernel
theorem dX6_bestTurn_85 : decode cX6_bestTurn 85 = .ok (.goto (-59), 3) := by decide +kernel
theorem dX6_bestTurn_88 : decode cX6_bestTurn 88 = .ok (.iload_n 1, 1) := by decide +kernel
theorem dX6_bestTurn_89 : decode cX6_bestTurn 89 = .ok (.ireturn, 1) := by decide +kernel
theorem dX6_finesIn_0 : decode cX6_finesIn 0 = .ok (.iload_n 1, 1) := by decide +kernel
theorem dX6_finesIn_1 : decode cX6_finesIn 1 = .ok (.invokestatic 123, 3) := by decide +kernel
theorem dX6_finesIn_4 : decode cX6_finesIn 4 = .ok (.aload_n 0, 1) := by decide +kernel
theorem dX6_finesIn_5 : decode cX6_finesIn 5 = .ok (.getfield 10, 3) := by decide +kernel
theorem dX6_finesIn_8 : decode cX6_finesIn 8 = .ok (.iload_n 1, 1) := by decide +kernel
theorem dX6_finesIn_9 : decode cX6_finesIn 9 = .ok (.invokevirtual 279, 3) := by decide +kernel
theorem dX6_finesIn_12 : decode cX6_finesIn 12 = .ok (.ireturn, 1) := by decide +kernel
theorem dX6_requireRule_0 : decode cX6_requireRule 0 = .ok (.iload_n 1, 1) := by decide +kernel
theorem dX6_requireRule_1 : decode cX6_requireRule 1 = .ok (.ifCond .lt 14, 3) := by decide +kernel
theorem dX6_requireRule_4 : decode cX6_requireRule 4 = .ok (.iload_n 1, 1) := by decide +kernel
theorem dX6_requireRule_5 : decode cX6_requireRule 5 = .ok (.aload_n 0, 1) := by decide +kernel
theorem dX6_requireRule_6 : decode cX6_requireRule 6 = .ok (.getfield 10, 3) := by decide +kernel
theorem dX6_requireRule_9 : decode cX6_requireRule 9 = .ok (.getfield 70, 3) := by decide +kernel
theorem dX6_requireRule_12 : decode cX6_requireRule 12 = .ok (.if_icmp .lt 14, 3) := by decide +kernel
theorem dX6_requireRule_15 : decode cX6_requireRule 15 = .ok (.new 304, 3) := by decide +kernel
theorem dX6_requireRule_18 : decode cX6_requireRule 18 = .ok (.dup, 1) := by decide +kernel
theorem dX6_requireRule_19 : decode cX6_requireRule 19 = .ok (.ldc_w 306, 3) := by decide +kernel
theorem dX6_requireRule_22 : decode cX6_requireRule 22 = .ok (.invokespecial 308, 3) := by decide +kernel
theorem dX6_requireRule_25 : decode cX6_requireRule 25 = .ok (.athrow, 1) := by decide +kernel
theorem dX6_requireRule_26 : decode cX6_requireRule 26 = .ok (.return_, 1) := by decide +kernel
theorem dX6_requireRoom_0 : decode cX6_requireRoom 0 = .ok (.iload_n 0, 1) := by decide +kernel
theorem dX6_requireRoom_1 : decode cX6_requireRoom 1 = .ok (.ifCond .lt 9, 3) := by decide +kernel
theorem dX6_requireRoom_4 : decode cX6_requireRoom 4 = .ok (.iload_n 0, 1) := by decide +kernel
theorem dX6_requireRoom_5 : decode cX6_requireRoom 5 = .ok (.bipush 6, 2) := by decide +kernel
theorem dX6_requireRoom_7 : decode cX6_requireRoom 7 = .ok (.if_icmp .lt 14, 3) := by decide +kernel
theorem dX6_requireRoom_10 : decode cX6_requireRoom 10 = .ok (.new 304, 3) := by decide +kernel
theorem dX6_requireRoom_13 : decode cX6_requireRoom 13 = .ok (.dup, 1) := by decide +kernel
theorem dX6_requireRoom_14 : decode cX6_requireRoom 14 = .ok (.ldc_w 309, 3) := by decide +kernel
theorem dX6_requireRoom_17 : decode cX6_requireRoom 17 = .ok (.invokespecial 308, 3) := by decide +kernel
theorem dX6_requireRoom_20 : decode cX6_requireRoom 20 = .ok (.athrow, 1) := by decide +kernel
theorem dX6_requireRoom_21 : decode cX6_requireRoom 21 = .ok (.return_, 1) := by decide +kernel
theorem dX6_requireNights_0 : decode cX6_requireNights 0 = .ok (.iload_n 0, 1) := by decide +kernel
theorem dX6_requireNights_1 : decode cX6_requireNights 1 = .ok (.iconst 1, 1) := by decide +kernel
theorem dX6_requireNights_2 : decode cX6_requireNights 2 = .ok (.if_icmp .lt 9, 3) := by decide +kernel
theorem dX6_requireNights_5 : decode cX6_requireNights 5 = .ok (.iload_n 0, 1) := by decide +kernel
theorem dX6_requireNights_6 : decode cX6_requireNights 6 = .ok (.bipush 30, 2) := by decide +kernel
theorem dX6_requireNights_8 : decode cX6_requireNights 8 = .ok (.if_icmp .le 14, 3) := by decide +kernel
theorem dX6_requireNights_11 : decode cX6_requireNights 11 = .ok (.new 59, 3) := by decide +kernel
theorem dX6_requireNights_14 : decode cX6_requireNights 14 = .ok (.dup, 1) := by decide +kernel
theorem dX6_requireNights_15 : decode cX6_requireNights 15 = .ok (.ldc_w 311, 3) := by decide +kernel
theorem dX6_requireNights_18 : decode cX6_requireNights 18 = .ok (.invokespecial 63, 3) := by decide +kernel
theorem dX6_requireNights_21 : decode cX6_requireNights 21 = .ok (.athrow, 1) := by decide +kernel
theorem dX6_requireNights_22 : decode cX6_requireNights 22 = .ok (.return_, 1) := by decide +kernel
theorem dX6_requireSet_0 : decode cX6_requireSet 0 = .ok (.iload_n 1, 1) := by decide +kernel
theorem dX6_requireSet_1 : decode cX6_requireSet 1 = .ok (.ifCond .lt 16, 3) := by decide +kernel
theorem dX6_requireSet_4 : decode cX6_requireSet 4 = .ok (.iload_n 1, 1) := by decide +kernel
theorem dX6_requireSet_5 : decode cX6_requireSet 5 = .ok (.iconst 1, 1) := by decide +kernel
theorem dX6_requireSet_6 : decode cX6_requireSet 6 = .ok (.aload_n 0, 1) := by decide +kernel
theorem dX6_requireSet_7 : decode cX6_requireSet 7 = .ok (.getfield 10, 3) := by decide +kernel
theorem dX6_requireSet_10 : decode cX6_requireSet 10 = .ok (.getfield 70, 3) := by decide +kernel
theorem dX6_requireSet_13 : decode cX6_requireSet 13 = .ok (.ishl, 1) := by decide +kernel
theorem dX6_requireSet_14 : decode cX6_requireSet 14 = .ok (.if_icmp .lt 14, 3) := by decide +kernel
theorem dX6_requireSet_17 : decode cX6_requireSet 17 = .ok (.new 59, 3) := by decide +kernel
theorem dX6_requireSet_20 : decode cX6_requireSet 20 = .ok (.dup, 1) := by decide +kernel
theorem dX6_requireSet_21 : decode cX6_requireSet 21 = .ok (.ldc_w 313, 3) := by decide +kernel
theorem dX6_requireSet_24 : decode cX6_requireSet 24 = .ok (.invokespecial 63, 3) := by decide +kernel
theorem dX6_requireSet_27 : decode cX6_requireSet 27 = .ok (.athrow, 1) := by decide +kernel
theorem dX6_requireSet_28 : decode cX6_requireSet 28 = .ok (.return_, 1) := by decide +kernel
theorem dX6_isPartOf_0 : decode cX6_isPartOf 0 = .ok (.iload_n 0, 1) := by decide +kernel
theorem dX6_isPartOf_1 : decode cX6_isPartOf 1 = .ok (.iload_n 1, 1) := by decide +kernel
theorem dX6_isPartOf_2 : decode cX6_isPartOf 2 = .ok (.iconst (-1), 1) := by decide +kernel
theorem dX6_isPartOf_3 : decode cX6_isPartOf 3 = .ok (.ixor, 1) := by decide +kernel
theorem dX6_isPartOf_4 : decode cX6_isPartOf 4 = .ok (.iand, 1) := by decide +kernel
theorem dX6_isPartOf_5 : decode cX6_isPartOf 5 = .ok (.ifCond .ne 7, 3) := by decide +kernel
theorem dX6_isPartOf_8 : decode cX6_isPartOf 8 = .ok (.iconst 1, 1) := by decide +kernel
theorem dX6_isPartOf_9 : decode cX6_isPartOf 9 = .ok (.goto 4, 3) := by decide +kernel
theorem dX6_isPartOf_12 : decode cX6_isPartOf 12 = .ok (.iconst 0, 1) := by decide +kernel
theorem dX6_isPartOf_13 : decode cX6_isPartOf 13 = .ok (.ireturn, 1) := by decide +kernel
theorem dX6_hasWay_0 : decode cX6_hasWay 0 = .ok (.lload_n 0, 1) := by decide +kernel
theorem dX6_hasWay_1 : decode cX6_hasWay 1 = .ok (.iload_n 2, 1) := by decide +kernel
theorem dX6_hasWay_2 : decode cX6_hasWay 2 = .ok (.lushr, 1) := by decide +kernel
theorem dX6_hasWay_3 : decode cX6_hasWay 3 = .ok (.lconst 1, 1) := by decide +kernel
theorem dX6_hasWay_4 : decode cX6_hasWay 4 = .ok (.land, 1) := by decide +kernel
theorem dX6_hasWay_5 : decode cX6_hasWay 5 = .ok (.lconst 0, 1) := by decide +kernel
theorem dX6_hasWay_6 : decode cX6_hasWay 6 = .ok (.lcmp, 1) := by decide +kernel
theorem dX6_hasWay_7 : decode cX6_hasWay 7 = .ok (.ifCond .eq 7, 3) := by decide +kernel
theorem dX6_hasWay_10 : decode cX6_hasWay 10 = .ok (.iconst 1, 1) := by decide +kernel
theorem dX6_hasWay_11 : decode cX6_hasWay 11 = .ok (.goto 4, 3) := by decide +kernel
theorem dX6_hasWay_14 : decode cX6_hasWay 14 = .ok (.iconst 0, 1) := by decide +kernel
theorem dX6_hasWay_15 : decode cX6_hasWay 15 = .ok (.ireturn, 1) := by decide +kernel
theorem dX6_countWays_0 : decode cX6_countWays 0 = .ok (.aload_n 0, 1) := by decide +kernel
theorem dX6_countWays_1 : decode cX6_countWays 1 = .ok (.getfield 10, 3) := by decide +kernel
theorem dX6_countWays_4 : decode cX6_countWays 4 = .ok (.invokevirtual 221, 3) := by decide +kernel
theorem dX6_countWays_7 : decode cX6_countWays 7 = .ok (.invokestatic 315, 3) := by decide +kernel
theorem dX6_countWays_10 : decode cX6_countWays 10 = .ok (.ireturn, 1) := by decide +kernel
theorem dX6_commonIn_0 : decode cX6_commonIn 0 = .ok (.aload_n 0, 1) := by decide +kernel
theorem dX6_commonIn_1 : decode cX6_commonIn 1 = .ok (.getfield 10, 3) := by decide +kernel
theorem dX6_commonIn_4 : decode cX6_commonIn 4 = .ok (.invokevirtual 221, 3) := by decide +kernel
theorem dX6_commonIn_7 : decode cX6_commonIn 7 = .ok (.lstore_n 2, 1) := by decide +kernel
theorem dX6_commonIn_8 : decode cX6_commonIn 8 = .ok (.iconst 0, 1) := by decide +kernel
theorem dX6_commonIn_9 : decode cX6_commonIn 9 = .ok (.istore 4, 2) := by decide +kernel
theorem dX6_commonIn_11 : decode cX6_commonIn 11 = .ok (.iconst 0, 1) := by decide +kernel
theorem dX6_commonIn_12 : decode cX6_commonIn 12 = .ok (.istore 5, 2) := by decide +kernel
theorem dX6_commonIn_14 : decode cX6_commonIn 14 = .ok (.iconst 0, 1) := by decide +kernel
theorem dX6_commonIn_15 : decode cX6_commonIn 15 = .ok (.istore 6, 2) := by decide +kernel
theorem dX6_commonIn_17 : decode cX6_commonIn 17 = .ok (.iload 6, 2) := by decide +kernel
theorem dX6_commonIn_19 : decode cX6_commonIn 19 = .ok (.bipush 64, 2) := by decide +kernel
theorem dX6_commonIn_21 : decode cX6_commonIn 21 = .ok (.if_icmp .ge 68, 3) := by decide +kernel
theorem dX6_commonIn_24 : decode cX6_commonIn 24 = .ok (.lload_n 2, 1) := by decide +kernel
theorem dX6_commonIn_25 : decode cX6_commonIn 25 = .ok (.iload 6, 2) := by decide +kernel
theorem dX6_commonIn_27 : decode cX6_commonIn 27 = .ok (.invokestatic 225, 3) := by decide +kernel
theorem dX6_commonIn_30 : decode cX6_commonIn 30 = .ok (.ifCond .eq 53, 3) := by decide +kernel
theorem dX6_commonIn_33 : decode cX6_commonIn 33 = .ok (.iload 6, 2) := by decide +kernel
theorem dX6_commonIn_35 : decode cX6_commonIn 35 = .ok (.iload_n 1, 1) := by decide +kernel
theorem dX6_commonIn_36 : decode cX6_commonIn 36 = .ok (.ishr, 1) := by decide +kernel
theorem dX6_commonIn_37 : decode cX6_commonIn 37 = .ok (.iconst 1, 1) := by decide +kernel
theorem dX6_commonIn_38 : decode cX6_commonIn 38 = .ok (.iand, 1) := by decide +kernel
theorem dX6_commonIn_39 : decode cX6_commonIn 39 = .ok (.ifCond .eq 7, 3) := by decide +kernel
theorem dX6_commonIn_42 : decode cX6_commonIn 42 = .ok (.iconst 1, 1) := by decide +kernel
theorem dX6_commonIn_43 : decode cX6_commonIn 43 = .ok (.goto 4, 3) := by decide +kernel
theorem dX6_commonIn_46 : decode cX6_commonIn 46 = .ok (.iconst 0, 1) := by decide +kernel
theorem dX6_commonIn_47 : decode cX6_commonIn 47 = .ok (.istore 7, 2) := by decide +kernel
theorem dX6_commonIn_49 : decode cX6_commonIn 49 = .ok (.iload 4, 2) := by decide +kernel
theorem dX6_commonIn_51 : decode cX6_commonIn 51 = .ok (.ifCond .ne 8, 3) := by decide +kernel
theorem dX6_commonIn_54 : decode cX6_commonIn 54 = .ok (.iload 7, 2) := by decide +kernel
theorem dX6_commonIn_56 : decode cX6_commonIn 56 = .ok (.ifCond .eq 7, 3) := by decide +kernel
theorem dX6_commonIn_59 : decode cX6_commonIn 59 = .ok (.iconst 1, 1) := by decide +kernel
theorem dX6_commonIn_60 : decode cX6_commonIn 60 = .ok (.goto 4, 3) := by decide +kernel
theorem dX6_commonIn_63 : decode cX6_commonIn 63 = .ok (.iconst 0, 1) := by decide +kernel
theorem dX6_commonIn_64 : decode cX6_commonIn 64 = .ok (.istore 4, 2) := by decide +kernel
theorem dX6_commonIn_66 : decode cX6_commonIn 66 = .ok (.iload 5, 2) := by decide +kernel
theorem dX6_commonIn_68 : decode cX6_commonIn 68 = .ok (.ifCond .ne 8, 3) := by decide +kernel
theorem dX6_commonIn_71 : decode cX6_commonIn 71 = .ok (.iload 7, 2) := by decide +kernel
theorem dX6_commonIn_73 : decode cX6_commonIn 73 = .ok (.ifCond .ne 7, 3) := by decide +kernel
theorem dX6_commonIn_76 : decode cX6_commonIn 76 = .ok (.iconst 1, 1) := by decide +kernel
theorem dX6_commonIn_77 : decode cX6_commonIn 77 = .ok (.goto 4, 3) := by decide +kernel
theorem dX6_commonIn_80 : decode cX6_commonIn 80 = .ok (.iconst 0, 1) := by decide +kernel
theorem dX6_commonIn_81 : decode cX6_commonIn 81 = .ok (.istore 5, 2) := by decide +kernel
theorem dX6_commonIn_83 : decode cX6_commonIn 83 = .ok (.iinc 6 1, 3) := by decide +kernel
theorem dX6_commonIn_86 : decode cX6_commonIn 86 = .ok (.goto (-69), 3) := by decide +kernel
theorem dX6_commonIn_89 : decode cX6_commonIn 89 = .ok (.iload 4, 2) := by decide +kernel
theorem dX6_commonIn_91 : decode cX6_commonIn 91 = .ok (.ifCond .eq 14, 3) := by decide +kernel
theorem dX6_commonIn_94 : decode cX6_commonIn 94 = .ok (.iload 5, 2) := by decide +kernel
theorem dX6_commonIn_96 : decode cX6_commonIn 96 = .ok (.ifCond .eq 7, 3) := by decide +kernel
theorem dX6_commonIn_99 : decode cX6_commonIn 99 = .ok (.iconst 2, 1) := by decide +kernel
theorem dX6_commonIn_100 : decode cX6_commonIn 100 = .ok (.goto 4, 3) := by decide +kernel
theorem dX6_commonIn_103 : decode cX6_commonIn 103 = .ok (.iconst 1, 1) := by decide +kernel
theorem dX6_commonIn_104 : decode cX6_commonIn 104 = .ok (.ireturn, 1) := by decide +kernel
theorem dX6_commonIn_105 : decode cX6_commonIn 105 = .ok (.iload 5, 2) := by decide +kernel
theorem dX6_commonIn_107 : decode cX6_commonIn 107 = .ok (.ifCond .eq 7, 3) := by decide +kernel
theorem dX6_commonIn_110 : decode cX6_commonIn 110 = .ok (.iconst 0, 1) := by decide +kernel
theorem dX6_commonIn_111 : decode cX6_commonIn 111 = .ok (.goto 4, 3) := by decide +kernel
theorem dX6_commonIn_114 : decode cX6_commonIn 114 = .ok (.iconst (-1), 1) := by decide +kernel
theorem dX6_commonIn_115 : decode cX6_commonIn 115 = .ok (.ireturn, 1) := by decide +kernel
theorem dX6_oneTurnFurther_0 : decode cX6_oneTurnFurther 0 = .ok (.lload_n 0, 1) := by decide +kernel
theorem dX6_oneTurnFurther_1 : decode cX6_oneTurnFurther 1 = .ok (.lstore_n 2, 1) := by decide +kernel
theorem dX6_oneTurnFurther_2 : decode cX6_oneTurnFurther 2 = .ok (.iconst 0, 1) := by decide +kernel
theorem dX6_oneTurnFurther_3 : decode cX6_oneTurnFurther 3 = .ok (.istore 4, 2) := by decide +kernel
theorem dX6_oneTurnFurther_5 : decode cX6_oneTurnFurther 5 = .ok (.iload 4, 2) := by decide +kernel
theorem dX6_oneTurnFurther_7 : decode cX6_oneTurnFurther 7 = .ok (.bipush 64, 2) := by decide +kernel
theorem dX6_oneTurnFurther_9 : decode cX6_oneTurnFurther 9 = .ok (.if_icmp .ge 46, 3) := by decide +kernel
theorem dX6_oneTurnFurther_12 : decode cX6_oneTurnFurther 12 = .ok (.iconst 0, 1) := by decide +kernel
theorem dX6_oneTurnFurther_13 : decode cX6_oneTurnFurther 13 = .ok (.istore 5, 2) := by decide +kernel
theorem dX6_oneTurnFurther_15 : decode cX6_oneTurnFurther 15 = .ok (.iload 5, 2) := by decide +kernel
theorem dX6_oneTurnFurther_17 : decode cX6_oneTurnFurther 17 = .ok (.bipush 6, 2) := by decide +kernel
theorem dX6_oneTurnFurther_19 : decode cX6_oneTurnFurther 19 = .ok (.if_icmp .ge 30, 3) := by decide +kernel
theorem dX6_oneTurnFurther_22 : decode cX6_oneTurnFurther 22 = .ok (.lload_n 0, 1) := by decide +kernel
theorem dX6_oneTurnFurther_23 : decode cX6_oneTurnFurther 23 = .ok (.iload 4, 2) := by decide +kernel
theorem dX6_oneTurnFurther_25 : decode cX6_oneTurnFurther 25 = .ok (.invokestatic 225, 3) := by decide +kernel
theorem dX6_oneTurnFurther_28 : decode cX6_oneTurnFurther 28 = .ok (.ifCond .eq 21, 3) := by decide +kernel
theorem dX6_oneTurnFurther_31 : decode cX6_oneTurnFurther 31 = .ok (.lload_n 2, 1) := by decide +kernel
theorem dX6_oneTurnFurther_32 : decode cX6_oneTurnFurther 32 = .ok (.lconst 1, 1) := by decide +kernel
theorem dX6_oneTurnFurther_33 : decode cX6_oneTurnFurther 33 = .ok (.iload 4, 2) := by decide +kernel
theorem dX6_oneTurnFurther_35 : decode cX6_oneTurnFurther 35 = .ok (.iconst 1, 1) := by decide +kernel
theorem dX6_oneTurnFurther_36 : decode cX6_oneTurnFurther 36 = .ok (.iload 5, 2) := by decide +kernel
theorem dX6_oneTurnFurther_38 : decode cX6_oneTurnFurther 38 = .ok (.ishl, 1) := by decide +kernel
theorem dX6_oneTurnFurther_39 : decode cX6_oneTurnFurther 39 = .ok (.ixor, 1) := by decide +kernel
theorem dX6_oneTurnFurther_40 : decode cX6_oneTurnFurther 40 = .ok (.lshl, 1) := by decide +kernel
theorem dX6_oneTurnFurther_41 : decode cX6_oneTurnFurther 41 = .ok (.lor, 1) := by decide +kernel
theorem dX6_oneTurnFurther_42 : decode cX6_oneTurnFurther 42 = .ok (.lstore_n 2, 1) := by decide +kernel
theorem dX6_oneTurnFurther_43 : decode cX6_oneTurnFurther 43 = .ok (.iinc 5 1, 3) := by decide +kernel
theorem dX6_oneTurnFurther_46 : decode cX6_oneTurnFurther 46 = .ok (.goto (-31), 3) := by decide +kernel
theorem dX6_oneTurnFurther_49 : decode cX6_oneTurnFurther 49 = .ok (.iinc 4 1, 3) := by decide +kernel
theorem dX6_oneTurnFurther_52 : decode cX6_oneTurnFurther 52 = .ok (.goto (-47), 3) := by decide +kernel
theorem dX6_oneTurnFurther_55 : decode cX6_oneTurnFurther 55 = .ok (.lload_n 2, 1) := by decide +kernel
theorem dX6_oneTurnFurther_56 : decode cX6_oneTurnFurther 56 = .ok (.lreturn, 1) := by decide +kernel
theorem dX6_followsFromOthers_0 : decode cX6_followsFromOthers 0 = .ok (.aload_n 0, 1) := by decide +kernel
theorem dX6_followsFromOthers_1 : decode cX6_followsFromOthers 1 = .ok (.getfield 10, 3) := by decide +kernel
theorem dX6_followsFromOthers_4 : decode cX6_followsFromOthers 4 = .ok (.aload_n 0, 1) := by decide +kernel
theorem dX6_followsFromOthers_5 : decode cX6_followsFromOthers 5 = .ok (.getfield 10, 3) := by decide +kernel
theorem dX6_followsFromOthers_8 : decode cX6_followsFromOthers 8 = .ok (.getfield 149, 3) := by decide +kernel
theorem dX6_followsFromOthers_11 : decode cX6_followsFromOthers 11 = .ok (.invokevirtual 181, 3) := by decide +kernel
theorem dX6_followsFromOthers_14 : decode cX6_followsFromOthers 14 = .ok (.istore_n 2, 1) := by decide +kernel
theorem dX6_followsFromOthers_15 : decode cX6_followsFromOthers 15 = .ok (.iload_n 2, 1) := by decide +kernel
theorem dX6_followsFromOthers_16 : decode cX6_followsFromOthers 16 = .ok (.iload_n 1, 1) := by decide +kernel
theorem dX6_followsFromOthers_17 : decode cX6_followsFromOthers 17 = .ok (.ishr, 1) := by decide +kernel
theorem dX6_followsFromOthers_18 : decode cX6_followsFromOthers 18 = .ok (.iconst 1, 1) := by decide +kernel
theorem dX6_followsFromOthers_19 : decode cX6_followsFromOthers 19 = .ok (.iand, 1) := by decide +kernel
theorem dX6_followsFromOthers_20 : decode cX6_followsFromOthers 20 = .ok (.ifCond .ne 5, 3) := by decide +kernel
theorem dX6_followsFromOthers_23 : decode cX6_followsFromOthers 23 = .ok (.iconst 0, 1) := by decide +kernel
theorem dX6_followsFromOthers_24 : decode cX6_followsFromOthers 24 = .ok (.ireturn, 1) := by decide +kernel
theorem dX6_followsFromOthers_25 : decode cX6_followsFromOthers 25 = .ok (.aload_n 0, 1) := by decide +kernel
theorem dX6_followsFromOthers_26 : decode cX6_followsFromOthers 26 = .ok (.getfield 10, 3) := by decide +kernel
theorem dX6_followsFromOthers_29 : decode cX6_followsFromOthers 29 = .ok (.iload_n 2, 1) := by decide +kernel
theorem dX6_followsFromOthers_30 : decode cX6_followsFromOthers 30 = .ok (.iconst 1, 1) := by decide +kernel
theorem dX6_followsFromOthers_31 : decode cX6_followsFromOthers 31 = .ok (.iload_n 1, 1) := by decide +kernel
theorem dX6_followsFromOthers_32 : decode cX6_followsFromOthers 32 = .ok (.ishl, 1) := by decide +kernel
theorem dX6_followsFromOthers_33 : decode cX6_followsFromOthers 33 = .ok (.iconst (-1), 1) := by decide +kernel
theorem dX6_followsFromOthers_34 : decode cX6_followsFromOthers 34 = .ok (.ixor, 1) := by decide +kernel
theorem dX6_followsFromOthers_35 : decode cX6_followsFromOthers 35 = .ok (.iand, 1) := by decide +kernel
theorem dX6_followsFromOthers_36 : decode cX6_followsFromOthers 36 = .ok (.invokevirtual 202, 3) := by decide +kernel
theorem dX6_followsFromOthers_39 : decode cX6_followsFromOthers 39 = .ok (.lstore_n 3, 1) := by decide +kernel
theorem dX6_followsFromOthers_40 : decode cX6_followsFromOthers 40 = .ok (.lload_n 3, 1) := by decide +kernel
theorem dX6_followsFromOthers_41 : decode cX6_followsFromOthers 41 = .ok (.aload_n 0, 1) := by decide +kernel
theorem dX6_followsFromOthers_42 : decode cX6_followsFromOthers 42 = .ok (.getfield 10, 3) := by decide +kernel
theorem dX6_followsFromOthers_45 : decode cX6_followsFromOthers 45 = .ok (.iload_n 1, 1) := by decide +kernel
theorem dX6_followsFromOthers_46 : decode cX6_followsFromOthers 46 = .ok (.invokevirtual 93, 3) := by decide +kernel
theorem dX6_followsFromOthers_49 : decode cX6_followsFromOthers 49 = .ok (.getfield 320, 3) := by decide +kernel
theorem dX6_followsFromOthers_52 : decode cX6_followsFromOthers 52 = .ok (.ldc2_w 253, 3) := by decide +kernel
theorem dX6_followsFromOthers_55 : decode cX6_followsFromOthers 55 = .ok (.lxor, 1) := by decide +kernel
theorem dX6_followsFromOthers_56 : decode cX6_followsFromOthers 56 = .ok (.land, 1) := by decide +kernel
theorem dX6_followsFromOthers_57 : decode cX6_followsFromOthers 57 = .ok (.lconst 0, 1) := by decide +kernel
theorem dX6_followsFromOthers_58 : decode cX6_followsFromOthers 58 = .ok (.lcmp, 1) := by decide +kernel
theorem dX6_followsFromOthers_59 : decode cX6_followsFromOthers 59 = .ok (.ifCond .ne 7, 3) := by decide +kernel
theorem dX6_followsFromOthers_62 : decode cX6_followsFromOthers 62 = .ok (.iconst 1, 1) := by decide +kernel
theorem dX6_followsFromOthers_63 : decode cX6_followsFromOthers 63 = .ok (.goto 4, 3) := by decide +kernel
theorem dX6_followsFromOthers_66 : decode cX6_followsFromOthers 66 = .ok (.iconst 0, 1) := by decide +kernel
theorem dX6_followsFromOthers_67 : decode cX6_followsFromOthers 67 = .ok (.ireturn, 1) := by decide +kernel
theorem dX6_followsWhenSplit_0 : decode cX6_followsWhenSplit 0 = .ok (.aload_n 0, 1) := by decide +kernel
theorem dX6_followsWhenSplit_1 : decode cX6_followsWhenSplit 1 = .ok (.getfield 10, 3) := by decide +kernel
theorem dX6_followsWhenSplit_4 : decode cX6_followsWhenSplit 4 = .ok (.aload_n 0, 1) := by decide +kernel
theorem dX6_followsWhenSplit_5 : decode cX6_followsWhenSplit 5 = .ok (.getfield 10, 3) := by decide +kernel
theorem dX6_followsWhenSplit_8 : decode cX6_followsWhenSplit 8 = .ok (.getfield 149, 3) := by decide +kernel
theorem dX6_followsWhenSplit_11 : decode cX6_followsWhenSplit 11 = .ok (.invokevirtual 181, 3) := by decide +kernel
theorem dX6_followsWhenSplit_14 : decode cX6_followsWhenSplit 14 = .ok (.istore_n 2, 1) := by decide +kernel
theorem dX6_followsWhenSplit_15 : decode cX6_followsWhenSplit 15 = .ok (.iload_n 2, 1) := by decide +kernel
theorem dX6_followsWhenSplit_16 : decode cX6_followsWhenSplit 16 = .ok (.iload_n 1, 1) := by decide +kernel
theorem dX6_followsWhenSplit_17 : decode cX6_followsWhenSplit 17 = .ok (.ishr, 1) := by decide +kernel
theorem dX6_followsWhenSplit_18 : decode cX6_followsWhenSplit 18 = .ok (.iconst 1, 1) := by decide +kernel
theorem dX6_followsWhenSplit_19 : decode cX6_followsWhenSplit 19 = .ok (.iand, 1) := by decide +kernel
theorem dX6_followsWhenSplit_20 : decode cX6_followsWhenSplit 20 = .ok (.ifCond .ne 5, 3) := by decide +kernel
theorem dX6_followsWhenSplit_23 : decode cX6_followsWhenSplit 23 = .ok (.iconst 0, 1) := by decide +kernel
theorem dX6_followsWhenSplit_24 : decode cX6_followsWhenSplit 24 = .ok (.ireturn, 1) := by decide +kernel
theorem dX6_followsWhenSplit_25 : decode cX6_followsWhenSplit 25 = .ok (.aload_n 0, 1) := by decide +kernel
theorem dX6_followsWhenSplit_26 : decode cX6_followsWhenSplit 26 = .ok (.getfield 10, 3) := by decide +kernel
theorem dX6_followsWhenSplit_29 : decode cX6_followsWhenSplit 29 = .ok (.iload_n 1, 1) := by decide +kernel
theorem dX6_followsWhenSplit_30 : decode cX6_followsWhenSplit 30 = .ok (.invokevirtual 93, 3) := by decide +kernel
theorem dX6_followsWhenSplit_33 : decode cX6_followsWhenSplit 33 = .ok (.astore_n 3, 1) := by decide +kernel
theorem dX6_followsWhenSplit_34 : decode cX6_followsWhenSplit 34 = .ok (.aload_n 0, 1) := by decide +kernel
theorem dX6_followsWhenSplit_35 : decode cX6_followsWhenSplit 35 = .ok (.getfield 10, 3) := by decide +kernel
theorem dX6_followsWhenSplit_38 : decode cX6_followsWhenSplit 38 = .ok (.iload_n 2, 1) := by decide +kernel
theorem dX6_followsWhenSplit_39 : decode cX6_followsWhenSplit 39 = .ok (.iconst 1, 1) := by decide +kernel
theorem dX6_followsWhenSplit_40 : decode cX6_followsWhenSplit 40 = .ok (.iload_n 1, 1) := by decide +kernel
theorem dX6_followsWhenSplit_41 : decode cX6_followsWhenSplit 41 = .ok (.ishl, 1) := by decide +kernel
theorem dX6_followsWhenSplit_42 : decode cX6_followsWhenSplit 42 = .ok (.iconst (-1), 1) := by decide +kernel
theorem dX6_followsWhenSplit_43 : decode cX6_followsWhenSplit 43 = .ok (.ixor, 1) := by decide +kernel
theorem dX6_followsWhenSplit_44 : decode cX6_followsWhenSplit 44 = .ok (.iand, 1) := by decide +kernel
theorem dX6_followsWhenSplit_45 : decode cX6_followsWhenSplit 45 = .ok (.iconst 0, 1) := by decide +kernel
theorem dX6_followsWhenSplit_46 : decode cX6_followsWhenSplit 46 = .ok (.aload_n 3, 1) := by decide +kernel
theorem dX6_followsWhenSplit_47 : decode cX6_followsWhenSplit 47 = .ok (.getfield 163, 3) := by decide +kernel
theorem dX6_followsWhenSplit_50 : decode cX6_followsWhenSplit 50 = .ok (.aload_n 3, 1) := by decide +kernel
theorem dX6_followsWhenSplit_51 : decode cX6_followsWhenSplit 51 = .ok (.getfield 160, 3) := by decide +kernel
theorem dX6_followsWhenSplit_54 : decode cX6_followsWhenSplit 54 = .ok (.invokestatic 206, 3) := by decide +kernel
theorem dX6_followsWhenSplit_57 : decode cX6_followsWhenSplit 57 = .ok (.ifCond .ne 7, 3) := by decide +kernel
theorem dX6_followsWhenSplit_60 : decode cX6_followsWhenSplit 60 = .ok (.iconst 1, 1) := by decide +kernel
theorem dX6_followsWhenSplit_61 : decode cX6_followsWhenSplit 61 = .ok (.goto 4, 3) := by decide +kernel
theorem dX6_followsWhenSplit_64 : decode cX6_followsWhenSplit 64 = .ok (.iconst 0, 1) := by decide +kernel
theorem dX6_followsWhenSplit_65 : decode cX6_followsWhenSplit 65 = .ok (.ireturn, 1) := by decide +kernel
theorem dX6_splitWays_0 : decode cX6_splitWays 0 = .ok (.aload_n 0, 1) := by decide +kernel
theorem dX6_splitWays_1 : decode cX6_splitWays 1 = .ok (.iload_n 1, 1) := by decide +kernel
theorem dX6_splitWays_2 : decode cX6_splitWays 2 = .ok (.iload_n 3, 1) := by decide +kernel
theorem dX6_splitWays_3 : decode cX6_splitWays 3 = .ok (.iload 4, 2) := by decide +kernel
theorem dX6_splitWays_5 : decode cX6_splitWays 5 = .ok (.invokevirtual 324, 3) := by decide +kernel
theorem dX6_splitWays_8 : decode cX6_splitWays 8 = .ok (.ifCond .eq 5, 3) := by decide +kernel
theorem dX6_splitWays_11 : decode cX6_splitWays 11 = .ok (.iconst 0, 1) := by decide +kernel
theorem dX6_splitWays_12 : decode cX6_splitWays 12 = .ok (.ireturn, 1) := by decide +kernel
theorem dX6_splitWays_13 : decode cX6_splitWays 13 = .ok (.iload_n 2, 1) := by decide +kernel
theorem dX6_splitWays_14 : decode cX6_splitWays 14 = .ok (.bipush 6, 2) := by decide +kernel
theorem dX6_splitWays_16 : decode cX6_splitWays 16 = .ok (.if_icmp .lt 5, 3) := by decide +kernel
theorem dX6_splitWays_19 : decode cX6_splitWays 19 = .ok (.iconst 1, 1) := by decide +kernel
theorem dX6_splitWays_20 : decode cX6_splitWays 20 = .ok (.ireturn, 1) := by decide +kernel
theorem dX6_splitWays_21 : decode cX6_splitWays 21 = .ok (.iconst 1, 1) := by decide +kernel
theorem dX6_splitWays_22 : decode cX6_splitWays 22 = .ok (.iload_n 2, 1) := by decide +kernel
theorem dX6_splitWays_23 : decode cX6_splitWays 23 = .ok (.ishl, 1) := by decide +kernel
theorem dX6_splitWays_24 : decode cX6_splitWays 24 = .ok (.istore 5, 2) := by decide +kernel
theorem dX6_splitWays_26 : decode cX6_splitWays 26 = .ok (.iload_n 3, 1) := by decide +kernel
theorem dX6_splitWays_27 : decode cX6_splitWays 27 = .ok (.iload 4, 2) := by decide +kernel
theorem dX6_splitWays_29 : decode cX6_splitWays 29 = .ok (.ior, 1) := by decide +kernel
theorem dX6_splitWays_30 : decode cX6_splitWays 30 = .ok (.iload 5, 2) := by decide +kernel
theorem dX6_splitWays_32 : decode cX6_splitWays 32 = .ok (.iand, 1) := by decide +kernel
theorem dX6_splitWays_33 : decode cX6_splitWays 33 = .ok (.ifCond .eq 15, 3) := by decide +kernel
theorem dX6_splitWays_36 : decode cX6_splitWays 36 = .ok (.aload_n 0, 1) := by decide +kernel
theorem dX6_splitWays_37 : decode cX6_splitWays 37 = .ok (.iload_n 1, 1) := by decide +kernel
theorem dX6_splitWays_38 : decode cX6_splitWays 38 = .ok (.iload_n 2, 1) := by decide +kernel
theorem dX6_splitWays_39 : decode cX6_splitWays 39 = .ok (.iconst 1, 1) := by decide +kernel
theorem dX6_splitWays_40 : decode cX6_splitWays 40 = .ok (.iadd, 1) := by decide +kernel
theorem dX6_splitWays_41 : decode cX6_splitWays 41 = .ok (.iload_n 3, 1) := by decide +kernel
theorem dX6_splitWays_42 : decode cX6_splitWays 42 = .ok (.iload 4, 2) := by decide +kernel
theorem dX6_splitWays_44 : decode cX6_splitWays 44 = .ok (.invokestatic 206, 3) := by decide +kernel
theorem dX6_splitWays_47 : decode cX6_splitWays 47 = .ok (.ireturn, 1) := by decide +kernel
theorem dX6_splitWays_48 : decode cX6_splitWays 48 = .ok (.aload_n 0, 1) := by decide +kernel
theorem dX6_splitWays_49 : decode cX6_splitWays 49 = .ok (.iload_n 1, 1) := by decide +kernel
theorem dX6_splitWays_50 : decode cX6_splitWays 50 = .ok (.iload_n 2, 1) := by decide +kernel
theorem dX6_splitWays_51 : decode cX6_splitWays 51 = .ok (.iconst 1, 1) := by decide +kernel
theorem dX6_splitWays_52 : decode cX6_splitWays 52 = .ok (.iadd, 1) := by decide +kernel
theorem dX6_splitWays_53 : decode cX6_splitWays 53 = .ok (.iload_n 3, 1) := by decide +kernel
theorem dX6_splitWays_54 : decode cX6_splitWays 54 = .ok (.iload 4, 2) := by decide +kernel
theorem dX6_splitWays_56 : decode cX6_splitWays 56 = .ok (.iload 5, 2) := by decide +kernel
theorem dX6_splitWays_58 : decode cX6_splitWays 58 = .ok (.ior, 1) := by decide +kernel
theorem dX6_splitWays_59 : decode cX6_splitWays 59 = .ok (.invokestatic 206, 3) := by decide +kernel
theorem dX6_splitWays_62 : decode cX6_splitWays 62 = .ok (.aload_n 0, 1) := by decide +kernel
theorem dX6_splitWays_63 : decode cX6_splitWays 63 = .ok (.iload_n 1, 1) := by decide +kernel
theorem dX6_splitWays_64 : decode cX6_splitWays 64 = .ok (.iload_n 2, 1) := by decide +kernel
theorem dX6_splitWays_65 : decode cX6_splitWays 65 = .ok (.iconst 1, 1) := by decide +kernel
theorem dX6_splitWays_66 : decode cX6_splitWays 66 = .ok (.iadd, 1) := by decide +kernel
theorem dX6_splitWays_67 : decode cX6_splitWays 67 = .ok (.iload_n 3, 1) := by decide +kernel
theorem dX6_splitWays_68 : decode cX6_splitWays 68 = .ok (.iload 5, 2) := by decide +kernel
theorem dX6_splitWays_70 : decode cX6_splitWays 70 = .ok (.ior, 1) := by decide +kernel
theorem dX6_splitWays_71 : decode cX6_splitWays 71 = .ok (.iload 4, 2) := by decide +kernel
theorem dX6_splitWays_73 : decode cX6_splitWays 73 = .ok (.invokestatic 206, 3) := by decide +kernel
theorem dX6_splitWays_76 : decode cX6_splitWays 76 = .ok (.iadd, 1) := by decide +kernel
theorem dX6_splitWays_77 : decode cX6_splitWays 77 = .ok (.ireturn, 1) := by decide +kernel
theorem dX6_splitCheapest_0 : decode cX6_splitCheapest 0 = .ok (.aload_n 0, 1) := by decide +kernel
theorem dX6_splitCheapest_1 : decode cX6_splitCheapest 1 = .ok (.aload_n 0, 1) := by decide +kernel
theorem dX6_splitCheapest_2 : decode cX6_splitCheapest 2 = .ok (.iload_n 1, 1) := by decide +kernel
theorem dX6_splitCheapest_3 : decode cX6_splitCheapest 3 = .ok (.iload_n 3, 1) := by decide +kernel
theorem dX6_splitCheapest_4 : decode cX6_splitCheapest 4 = .ok (.iload 4, 2) := by decide +kernel
theorem dX6_splitCheapest_6 : decode cX6_splitCheapest 6 = .ok (.invokevirtual 324, 3) := by decide +kernel
theorem dX6_splitCheapest_9 : decode cX6_splitCheapest 9 = .ok (.invokevirtual 272, 3) := by decide +kernel
theorem dX6_splitCheapest_12 : decode cX6_splitCheapest 12 = .ok (.istore 6, 2) := by decide +kernel
theorem dX6_splitCheapest_14 : decode cX6_splitCheapest 14 = .ok (.iload_n 2, 1) := by decide +kernel
theorem dX6_splitCheapest_15 : decode cX6_splitCheapest 15 = .ok (.bipush 6, 2) := by decide +kernel
theorem dX6_splitCheapest_17 : decode cX6_splitCheapest 17 = .ok (.if_icmp .ge 10, 3) := by decide +kernel
theorem dX6_splitCheapest_20 : decode cX6_splitCheapest 20 = .ok (.iload 6, 2) := by decide +kernel
theorem dX6_splitCheapest_22 : decode cX6_splitCheapest 22 = .ok (.iload 5, 2) := by decide +kernel
theorem dX6_splitCheapest_24 : decode cX6_splitCheapest 24 = .ok (.if_icmp .lt 11, 3) := by decide +kernel
theorem dX6_splitCheapest_27 : decode cX6_splitCheapest 27 = .ok (.iload 6, 2) := by decide +kernel
theorem dX6_splitCheapest_29 : decode cX6_splitCheapest 29 = .ok (.iload 5, 2) := by decide +kernel
theorem dX6_splitCheapest_31 : decode cX6_splitCheapest 31 = .ok (.invokestatic 327, 3) := by decide +kernel
theorem dX6_splitCheapest_34 : decode cX6_splitCheapest 34 = .ok (.ireturn, 1) := by decide +kernel
theorem dX6_splitCheapest_35 : decode cX6_splitCheapest 35 = .ok (.iconst 1, 1) := by decide +kernel
theorem dX6_splitCheapest_36 : decode cX6_splitCheapest 36 = .ok (.iload_n 2, 1) := by decide +kernel
theorem dX6_splitCheapest_37 : decode cX6_splitCheapest 37 = .ok (.ishl, 1) := by decide +kernel
theorem dX6_splitCheapest_38 : decode cX6_splitCheapest 38 = .ok (.istore 7, 2) := by decide +kernel
theorem dX6_splitCheapest_40 : decode cX6_splitCheapest 40 = .ok (.aload_n 0, 1) := by decide +kernel
theorem dX6_splitCheapest_41 : decode cX6_splitCheapest 41 = .ok (.iload_n 1, 1) := by decide +kernel
theorem dX6_splitCheapest_42 : decode cX6_splitCheapest 42 = .ok (.iload_n 2, 1) := by decide +kernel
theorem dX6_splitCheapest_43 : decode cX6_splitCheapest 43 = .ok (.iconst 1, 1) := by decide +kernel
theorem dX6_splitCheapest_44 : decode cX6_splitCheapest 44 = .ok (.iadd, 1) := by decide +kernel
theorem dX6_splitCheapest_45 : decode cX6_splitCheapest 45 = .ok (.iload_n 3, 1) := by decide +kernel
theorem dX6_splitCheapest_46 : decode cX6_splitCheapest 46 = .ok (.iload 4, 2) := by decide +kernel
theorem dX6_splitCheapest_48 : decode cX6_splitCheapest 48 = .ok (.iload 7, 2) := by decide +kernel
theorem dX6_splitCheapest_50 : decode cX6_splitCheapest 50 = .ok (.ior, 1) := by decide +kernel
theorem dX6_splitCheapest_51 : decode cX6_splitCheapest 51 = .ok (.iload 5, 2) := by decide +kernel
theorem dX6_splitCheapest_53 : decode cX6_splitCheapest 53 = .ok (.invokestatic 275, 3) := by decide +kernel
theorem dX6_splitCheapest_56 : decode cX6_splitCheapest 56 = .ok (.istore 8, 2) := by decide +kernel
theorem dX6_splitCheapest_58 : decode cX6_splitCheapest 58 = .ok (.aload_n 0, 1) := by decide +kernel
theorem dX6_splitCheapest_59 : decode cX6_splitCheapest 59 = .ok (.iload_n 1, 1) := by decide +kernel
theorem dX6_splitCheapest_60 : decode cX6_splitCheapest 60 = .ok (.iload_n 2, 1) := by decide +kernel
theorem dX6_splitCheapest_61 : decode cX6_splitCheapest 61 = .ok (.iconst 1, 1) := by decide +kernel
theorem dX6_splitCheapest_62 : decode cX6_splitCheapest 62 = .ok (.iadd, 1) := by decide +kernel
theorem dX6_splitCheapest_63 : decode cX6_splitCheapest 63 = .ok (.iload_n 3, 1) := by decide +kernel
theorem dX6_splitCheapest_64 : decode cX6_splitCheapest 64 = .ok (.iload 7, 2) := by decide +kernel
theorem dX6_splitCheapest_66 : decode cX6_splitCheapest 66 = .ok (.ior, 1) := by decide +kernel
theorem dX6_splitCheapest_67 : decode cX6_splitCheapest 67 = .ok (.iload 4, 2) := by decide +kernel
theorem dX6_splitCheapest_69 : decode cX6_splitCheapest 69 = .ok (.iload 8, 2) := by decide +kernel
theorem dX6_splitCheapest_71 : decode cX6_splitCheapest 71 = .ok (.invokestatic 275, 3) := by decide +kernel
theorem dX6_splitCheapest_74 : decode cX6_splitCheapest 74 = .ok (.ireturn, 1) := by decide +kernel
theorem dX6_leastClash_0 : decode cX6_leastClash 0 = .ok (.iload_n 3, 1) := by decide +kernel
theorem dX6_leastClash_1 : decode cX6_leastClash 1 = .ok (.ifCond .gt 16, 3) := by decide +kernel
theorem dX6_leastClash_4 : decode cX6_leastClash 4 = .ok (.lload 4, 2) := by decide +kernel
theorem dX6_leastClash_6 : decode cX6_leastClash 6 = .ok (.lconst 0, 1) := by decide +kernel
theorem dX6_leastClash_7 : decode cX6_leastClash 7 = .ok (.lcmp, 1) := by decide +kernel
theorem dX6_leastClash_8 : decode cX6_leastClash 8 = .ok (.ifCond .ne 7, 3) := by decide +kernel
theorem dX6_leastClash_11 : decode cX6_leastClash 11 = .ok (.iconst 0, 1) := by decide +kernel
theorem dX6_leastClash_12 : decode cX6_leastClash 12 = .ok (.goto 4, 3) := by decide +kernel
theorem dX6_leastClash_15 : decode cX6_leastClash 15 = .ok (.iconst (-1), 1) := by decide +kernel
theorem dX6_leastClash_16 : decode cX6_leastClash 16 = .ok (.ireturn, 1) := by decide +kernel
theorem dX6_leastClash_17 : decode cX6_leastClash 17 = .ok (.iload_n 2, 1) := by decide +kernel
theorem dX6_leastClash_18 : decode cX6_leastClash 18 = .ok (.iconst 1, 1) := by decide +kernel
theorem dX6_leastClash_19 : decode cX6_leastClash 19 = .ok (.iadd, 1) := by decide +kernel
theorem dX6_leastClash_20 : decode cX6_leastClash 20 = .ok (.iload_n 3, 1) := by decide +kernel
theorem dX6_leastClash_21 : decode cX6_leastClash 21 = .ok (.if_icmp .ge 5, 3) := by decide +kernel
theorem dX6_leastClash_24 : decode cX6_leastClash 24 = .ok (.iconst (-1), 1) := by decide +kernel
theorem dX6_leastClash_25 : decode cX6_leastClash 25 = .ok (.ireturn, 1) := by decide +kernel
theorem dX6_leastClash_26 : decode cX6_leastClash 26 = .ok (.aload_n 0, 1) := by decide +kernel
theorem dX6_leastClash_27 : decode cX6_leastClash 27 = .ok (.iload_n 1, 1) := by decide +kernel
theorem dX6_leastClash_28 : decode cX6_leastClash 28 = .ok (.iload_n 2, 1) := by decide +kernel
theorem dX6_leastClash_29 : decode cX6_leastClash 29 = .ok (.iconst 1, 1) := by decide +kernel
theorem dX6_leastClash_30 : decode cX6_leastClash 30 = .ok (.isub, 1) := by decide +kernel
theorem dX6_leastClash_31 : decode cX6_leastClash 31 = .ok (.iload_n 3, 1) := by decide +kernel
theorem dX6_leastClash_32 : decode cX6_leastClash 32 = .ok (.lload 4, 2) := by decide +kernel
theorem dX6_leastClash_34 : decode cX6_leastClash 34 = .ok (.invokestatic 255, 3) := by decide +kernel
theorem dX6_leastClash_37 : decode cX6_leastClash 37 = .ok (.istore 6, 2) := by decide +kernel
theorem dX6_leastClash_39 : decode cX6_leastClash 39 = .ok (.iload 6, 2) := by decide +kernel
theorem dX6_leastClash_41 : decode cX6_leastClash 41 = .ok (.iconst (-1), 1) := by decide +kernel
theorem dX6_leastClash_42 : decode cX6_leastClash 42 = .ok (.if_icmp .ne 11, 3) := by decide +kernel
theorem dX6_leastClash_45 : decode cX6_leastClash 45 = .ok (.iload_n 1, 1) := by decide +kernel
theorem dX6_leastClash_46 : decode cX6_leastClash 46 = .ok (.iload_n 2, 1) := by decide +kernel
theorem dX6_leastClash_47 : decode cX6_leastClash 47 = .ok (.ishr, 1) := by decide +kernel
theorem dX6_leastClash_48 : decode cX6_leastClash 48 = .ok (.iconst 1, 1) := by decide +kernel
theorem dX6_leastClash_49 : decode cX6_leastClash 49 = .ok (.iand, 1) := by decide +kernel
theorem dX6_leastClash_50 : decode cX6_leastClash 50 = .ok (.ifCond .ne 6, 3) := by decide +kernel
theorem dX6_leastClash_53 : decode cX6_leastClash 53 = .ok (.iload 6, 2) := by decide +kernel
theorem dX6_leastClash_55 : decode cX6_leastClash 55 = .ok (.ireturn, 1) := by decide +kernel
theorem dX6_leastClash_56 : decode cX6_leastClash 56 = .ok (.aload_n 0, 1) := by decide +kernel
theorem dX6_leastClash_57 : decode cX6_leastClash 57 = .ok (.iload_n 1, 1) := by decide +kernel
theorem dX6_leastClash_58 : decode cX6_leastClash 58 = .ok (.iload_n 2, 1) := by decide +kernel
theorem dX6_leastClash_59 : decode cX6_leastClash 59 = .ok (.iconst 1, 1) := by decide +kernel
theorem dX6_leastClash_60 : decode cX6_leastClash 60 = .ok (.isub, 1) := by decide +kernel
theorem dX6_leastClash_61 : decode cX6_leastClash 61 = .ok (.iload_n 3, 1) := by decide +kernel
theorem dX6_leastClash_62 : decode cX6_leastClash 62 = .ok (.iconst 1, 1) := by decide +kernel
theorem dX6_leastClash_63 : decode cX6_leastClash 63 = .ok (.isub, 1) := by decide +kernel
theorem dX6_leastClash_64 : decode cX6_leastClash 64 = .ok (.lload 4, 2) := by decide +kernel
theorem dX6_leastClash_66 : decode cX6_leastClash 66 = .ok (.aload_n 0, 1) := by decide +kernel
theorem dX6_leastClash_67 : decode cX6_leastClash 67 = .ok (.iload_n 2, 1) := by decide +kernel
theorem dX6_leastClash_68 : decode cX6_leastClash 68 = .ok (.invokevirtual 93, 3) := by decide +kernel
theorem dX6_leastClash_71 : decode cX6_leastClash 71 = .ok (.getfield 320, 3) := by decide +kernel
theorem dX6_leastClash_74 : decode cX6_leastClash 74 = .ok (.land, 1) := by decide +kernel
theorem dX6_leastClash_75 : decode cX6_leastClash 75 = .ok (.invokestatic 255, 3) := by decide +kernel
theorem dX6_leastClash_78 : decode cX6_leastClash 78 = .ok (.istore 7, 2) := by decide +kernel
theorem dX6_leastClash_80 : decode cX6_leastClash 80 = .ok (.iload 7, 2) := by decide +kernel
theorem dX6_leastClash_82 : decode cX6_leastClash 82 = .ok (.iconst (-1), 1) := by decide +kernel
theorem dX6_leastClash_83 : decode cX6_leastClash 83 = .ok (.if_icmp .ne 7, 3) := by decide +kernel
theorem dX6_leastClash_86 : decode cX6_leastClash 86 = .ok (.iconst (-1), 1) := by decide +kernel
theorem dX6_leastClash_87 : decode cX6_leastClash 87 = .ok (.goto 9, 3) := by decide +kernel
theorem dX6_leastClash_90 : decode cX6_leastClash 90 = .ok (.iload 7, 2) := by decide +kernel
theorem dX6_leastClash_92 : decode cX6_leastClash 92 = .ok (.iconst 1, 1) := by decide +kernel
theorem dX6_leastClash_93 : decode cX6_leastClash 93 = .ok (.iload_n 2, 1) := by decide +kernel
theorem dX6_leastClash_94 : decode cX6_leastClash 94 = .ok (.ishl, 1) := by decide +kernel
theorem dX6_leastClash_95 : decode cX6_leastClash 95 = .ok (.ior, 1) := by decide +kernel
theorem dX6_leastClash_96 : decode cX6_leastClash 96 = .ok (.ireturn, 1) := by decide +kernel
theorem dJ6_compare_7cf53_0 : decode cJ6_compare_7cf53 0 = .ok (.iload_n 0, 1) := by decide +kernel
theorem dJ6_compare_7cf53_1 : decode cJ6_compare_7cf53 1 = .ok (.iload_n 1, 1) := by decide +kernel
theorem dJ6_compare_7cf53_2 : decode cJ6_compare_7cf53 2 = .ok (.if_icmp .ge 7, 3) := by decide +kernel
theorem dJ6_compare_7cf53_5 : decode cJ6_compare_7cf53 5 = .ok (.iconst (-1), 1) := by decide +kernel
theorem dJ6_compare_7cf53_6 : decode cJ6_compare_7cf53 6 = .ok (.goto 13, 3) := by decide +kernel
theorem dJ6_compare_7cf53_9 : decode cJ6_compare_7cf53 9 = .ok (.iload_n 0, 1) := by decide +kernel
theorem dJ6_compare_7cf53_10 : decode cJ6_compare_7cf53 10 = .ok (.iload_n 1, 1) := by decide +kernel
theorem dJ6_compare_7cf53_11 : decode cJ6_compare_7cf53 11 = .ok (.if_icmp .ne 7, 3) := by decide +kernel
theorem dJ6_compare_7cf53_14 : decode cJ6_compare_7cf53 14 = .ok (.iconst 0, 1) := by decide +kernel
theorem dJ6_compare_7cf53_15 : decode cJ6_compare_7cf53 15 = .ok (.goto 4, 3) := by decide +kernel
theorem dJ6_compare_7cf53_18 : decode cJ6_compare_7cf53 18 = .ok (.iconst 1, 1) := by decide +kernel
theorem dJ6_compare_7cf53_19 : decode cJ6_compare_7cf53 19 = .ok (.ireturn, 1) := by decide +kernel
theorem dJ6_bitCount_0f7a4_0 : decode cJ6_bitCount_0f7a4 0 = .ok (.iload_n 0, 1) := by decide +kernel
theorem dJ6_bitCount_0f7a4_1 : decode cJ6_bitCount_0f7a4 1 = .ok (.iload_n 0, 1) := by decide +kernel
theorem dJ6_bitCount_0f7a4_2 : decode cJ6_bitCount_0f7a4 2 = .ok (.iconst 1, 1) := by decide +kernel
theorem dJ6_bitCount_0f7a4_3 : decode cJ6_bitCount_0f7a4 3 = .ok (.iushr, 1) := by decide +kernel
theorem dJ6_bitCount_0f7a4_4 : decode cJ6_bitCount_0f7a4 4 = .ok (.ldc_w 265, 3) := by decide +kernel
theorem dJ6_bitCount_0f7a4_7 : decode cJ6_bitCount_0f7a4 7 = .ok (.iand, 1) := by decide +kernel
theorem dJ6_bitCount_0f7a4_8 : decode cJ6_bitCount_0f7a4 8 = .ok (.isub, 1) := by decide +kernel
theorem dJ6_bitCount_0f7a4_9 : decode cJ6_bitCount_0f7a4 9 = .ok (.istore_n 0, 1) := by decide +kernel
theorem dJ6_bitCount_0f7a4_10 : decode cJ6_bitCount_0f7a4 10 = .ok (.iload_n 0, 1) := by decide +kernel
theorem dJ6_bitCount_0f7a4_11 : decode cJ6_bitCount_0f7a4 11 = .ok (.ldc_w 266, 3) := by decide +kernel
theorem dJ6_bitCount_0f7a4_14 : decode cJ6_bitCount_0f7a4 14 = .ok (.iand, 1) := by decide +kernel
theorem dJ6_bitCount_0f7a4_15 : decode cJ6_bitCount_0f7a4 15 = .ok (.iload_n 0, 1) := by decide +kernel
theorem dJ6_bitCount_0f7a4_16 : decode cJ6_bitCount_0f7a4 16 = .ok (.iconst 2, 1) := by decide +kernel
theorem dJ6_bitCount_0f7a4_17 : decode cJ6_bitCount_0f7a4 17 = .ok (.iushr, 1) := by decide +kernel
theorem dJ6_bitCount_0f7a4_18 : decode cJ6_bitCount_0f7a4 18 = .ok (.ldc_w 266, 3) := by decide +kernel
theorem dJ6_bitCount_0f7a4_21 : decode cJ6_bitCount_0f7a4 21 = .ok (.iand, 1) := by decide +kernel
theorem dJ6_bitCount_0f7a4_22 : decode cJ6_bitCount_0f7a4 22 = .ok (.iadd, 1) := by decide +kernel
theorem dJ6_bitCount_0f7a4_23 : decode cJ6_bitCount_0f7a4 23 = .ok (.istore_n 0, 1) := by decide +kernel
theorem dJ6_bitCount_0f7a4_24 : decode cJ6_bitCount_0f7a4 24 = .ok (.iload_n 0, 1) := by decide +kernel
theorem dJ6_bitCount_0f7a4_25 : decode cJ6_bitCount_0f7a4 25 = .ok (.iload_n 0, 1) := by decide +kernel
theorem dJ6_bitCount_0f7a4_26 : decode cJ6_bitCount_0f7a4 26 = .ok (.iconst 4, 1) := by decide +kernel
theorem dJ6_bitCount_0f7a4_27 : decode cJ6_bitCount_0f7a4 27 = .ok (.iushr, 1) := by decide +kernel
theorem dJ6_bitCount_0f7a4_28 : decode cJ6_bitCount_0f7a4 28 = .ok (.iadd, 1) := by decide +kernel
theorem dJ6_bitCount_0f7a4_29 : decode cJ6_bitCount_0f7a4 29 = .ok (.ldc_w 267, 3) := by decide +kernel
theorem dJ6_bitCount_0f7a4_32 : decode cJ6_bitCount_0f7a4 32 = .ok (.iand, 1) := by decide +kernel
theorem dJ6_bitCount_0f7a4_33 : decode cJ6_bitCount_0f7a4 33 = .ok (.istore_n 0, 1) := by decide +kernel
theorem dJ6_bitCount_0f7a4_34 : decode cJ6_bitCount_0f7a4 34 = .ok (.iload_n 0, 1) := by decide +kernel
theorem dJ6_bitCount_0f7a4_35 : decode cJ6_bitCount_0f7a4 35 = .ok (.iload_n 0, 1) := by decide +kernel
theorem dJ6_bitCount_0f7a4_36 : decode cJ6_bitCount_0f7a4 36 = .ok (.bipush 8, 2) := by decide +kernel
theorem dJ6_bitCount_0f7a4_38 : decode cJ6_bitCount_0f7a4 38 = .ok (.iushr, 1) := by decide +kernel
theorem dJ6_bitCount_0f7a4_39 : decode cJ6_bitCount_0f7a4 39 = .ok (.iadd, 1) := by decide +kernel
theorem dJ6_bitCount_0f7a4_40 : decode cJ6_bitCount_0f7a4 40 = .ok (.istore_n 0, 1) := by decide +kernel
theorem dJ6_bitCount_0f7a4_41 : decode cJ6_bitCount_0f7a4 41 = .ok (.iload_n 0, 1) := by decide +kernel
theorem dJ6_bitCount_0f7a4_42 : decode cJ6_bitCount_0f7a4 42 = .ok (.iload_n 0, 1) := by decide +kernel
theorem dJ6_bitCount_0f7a4_43 : decode cJ6_bitCount_0f7a4 43 = .ok (.bipush 16, 2) := by decide +kernel
theorem dJ6_bitCount_0f7a4_45 : decode cJ6_bitCount_0f7a4 45 = .ok (.iushr, 1) := by decide +kernel
theorem dJ6_bitCount_0f7a4_46 : decode cJ6_bitCount_0f7a4 46 = .ok (.iadd, 1) := by decide +kernel
theorem dJ6_bitCount_0f7a4_47 : decode cJ6_bitCount_0f7a4 47 = .ok (.istore_n 0, 1) := by decide +kernel
theorem dJ6_bitCount_0f7a4_48 : decode cJ6_bitCount_0f7a4 48 = .ok (.iload_n 0, 1) := by decide +kernel
theorem dJ6_bitCount_0f7a4_49 : decode cJ6_bitCount_0f7a4 49 = .ok (.bipush 63, 2) := by decide +kernel
theorem dJ6_bitCount_0f7a4_51 : decode cJ6_bitCount_0f7a4 51 = .ok (.iand, 1) := by decide +kernel
theorem dJ6_bitCount_0f7a4_52 : decode cJ6_bitCount_0f7a4 52 = .ok (.ireturn, 1) := by decide +kernel
theorem dJ13_bitCount_95d88_0 : decode cJ13_bitCount_95d88 0 = .ok (.lload_n 0, 1) := by decide +kernel
theorem dJ13_bitCount_95d88_1 : decode cJ13_bitCount_95d88 1 = .ok (.lload_n 0, 1) := by decide +kernel
theorem dJ13_bitCount_95d88_2 : decode cJ13_bitCount_95d88 2 = .ok (.iconst 1, 1) := by decide +kernel
theorem dJ13_bitCount_95d88_3 : decode cJ13_bitCount_95d88 3 = .ok (.lushr, 1) := by decide +kernel
theorem dJ13_bitCount_95d88_4 : decode cJ13_bitCount_95d88 4 = .ok (.ldc2_w 314, 3) := by decide +kernel
theorem dJ13_bitCount_95d88_7 : decode cJ13_bitCount_95d88 7 = .ok (.land, 1) := by decide +kernel
theorem dJ13_bitCount_95d88_8 : decode cJ13_bitCount_95d88 8 = .ok (.lsub, 1) := by decide +kernel
theorem dJ13_bitCount_95d88_9 : decode cJ13_bitCount_95d88 9 = .ok (.lstore_n 0, 1) := by decide +kernel
theorem dJ13_bitCount_95d88_10 : decode cJ13_bitCount_95d88 10 = .ok (.lload_n 0, 1) := by decide +kernel
theorem dJ13_bitCount_95d88_11 : decode cJ13_bitCount_95d88 11 = .ok (.ldc2_w 316, 3) := by decide +kernel
theorem dJ13_bitCount_95d88_14 : decode cJ13_bitCount_95d88 14 = .ok (.land, 1) := by decide +kernel
theorem dJ13_bitCount_95d88_15 : decode cJ13_bitCount_95d88 15 = .ok (.lload_n 0, 1) := by decide +kernel
theorem dJ13_bitCount_95d88_16 : decode cJ13_bitCount_95d88 16 = .ok (.iconst 2, 1) := by decide +kernel
theorem dJ13_bitCount_95d88_17 : decode cJ13_bitCount_95d88 17 = .ok (.lushr, 1) := by decide +kernel
theorem dJ13_bitCount_95d88_18 : decode cJ13_bitCount_95d88 18 = .ok (.ldc2_w 316, 3) := by decide +kernel
theorem dJ13_bitCount_95d88_21 : decode cJ13_bitCount_95d88 21 = .ok (.land, 1) := by decide +kernel
theorem dJ13_bitCount_95d88_22 : decode cJ13_bitCount_95d88 22 = .ok (.ladd, 1) := by decide +kernel
theorem dJ13_bitCount_95d88_23 : decode cJ13_bitCount_95d88 23 = .ok (.lstore_n 0, 1) := by decide +kernel
theorem dJ13_bitCount_95d88_24 : decode cJ13_bitCount_95d88 24 = .ok (.lload_n 0, 1) := by decide +kernel
theorem dJ13_bitCount_95d88_25 : decode cJ13_bitCount_95d88 25 = .ok (.lload_n 0, 1) := by decide +kernel
theorem dJ13_bitCount_95d88_26 : decode cJ13_bitCount_95d88 26 = .ok (.iconst 4, 1) := by decide +kernel
theorem dJ13_bitCount_95d88_27 : decode cJ13_bitCount_95d88 27 = .ok (.lushr, 1) := by decide +kernel
theorem dJ13_bitCount_95d88_28 : decode cJ13_bitCount_95d88 28 = .ok (.ladd, 1) := by decide +kernel
theorem dJ13_bitCount_95d88_29 : decode cJ13_bitCount_95d88 29 = .ok (.ldc2_w 318, 3) := by decide +kernel
theorem dJ13_bitCount_95d88_32 : decode cJ13_bitCount_95d88 32 = .ok (.land, 1) := by decide +kernel
theorem dJ13_bitCount_95d88_33 : decode cJ13_bitCount_95d88 33 = .ok (.lstore_n 0, 1) := by decide +kernel
theorem dJ13_bitCount_95d88_34 : decode cJ13_bitCount_95d88 34 = .ok (.lload_n 0, 1) := by decide +kernel
theorem dJ13_bitCount_95d88_35 : decode cJ13_bitCount_95d88 35 = .ok (.lload_n 0, 1) := by decide +kernel
theorem dJ13_bitCount_95d88_36 : decode cJ13_bitCount_95d88 36 = .ok (.bipush 8, 2) := by decide +kernel
theorem dJ13_bitCount_95d88_38 : decode cJ13_bitCount_95d88 38 = .ok (.lushr, 1) := by decide +kernel
theorem dJ13_bitCount_95d88_39 : decode cJ13_bitCount_95d88 39 = .ok (.ladd, 1) := by decide +kernel
theorem dJ13_bitCount_95d88_40 : decode cJ13_bitCount_95d88 40 = .ok (.lstore_n 0, 1) := by decide +kernel
theorem dJ13_bitCount_95d88_41 : decode cJ13_bitCount_95d88 41 = .ok (.lload_n 0, 1) := by decide +kernel
theorem dJ13_bitCount_95d88_42 : decode cJ13_bitCount_95d88 42 = .ok (.lload_n 0, 1) := by decide +kernel
theorem dJ13_bitCount_95d88_43 : decode cJ13_bitCount_95d88 43 = .ok (.bipush 16, 2) := by decide +kernel
theorem dJ13_bitCount_95d88_45 : decode cJ13_bitCount_95d88 45 = .ok (.lushr, 1) := by decide +kernel
theorem dJ13_bitCount_95d88_46 : decode cJ13_bitCount_95d88 46 = .ok (.ladd, 1) := by decide +kernel
theorem dJ13_bitCount_95d88_47 : decode cJ13_bitCount_95d88 47 = .ok (.lstore_n 0, 1) := by decide +kernel
theorem dJ13_bitCount_95d88_48 : decode cJ13_bitCount_95d88 48 = .ok (.lload_n 0, 1) := by decide +kernel
theorem dJ13_bitCount_95d88_49 : decode cJ13_bitCount_95d88 49 = .ok (.lload_n 0, 1) := by decide +kernel
theorem dJ13_bitCount_95d88_50 : decode cJ13_bitCount_95d88 50 = .ok (.bipush 32, 2) := by decide +kernel
theorem dJ13_bitCount_95d88_52 : decode cJ13_bitCount_95d88 52 = .ok (.lushr, 1) := by decide +kernel
theorem dJ13_bitCount_95d88_53 : decode cJ13_bitCount_95d88 53 = .ok (.ladd, 1) := by decide +kernel
theorem dJ13_bitCount_95d88_54 : decode cJ13_bitCount_95d88 54 = .ok (.lstore_n 0, 1) := by decide +kernel
theorem dJ13_bitCount_95d88_55 : decode cJ13_bitCount_95d88 55 = .ok (.lload_n 0, 1) := by decide +kernel
theorem dJ13_bitCount_95d88_56 : decode cJ13_bitCount_95d88 56 = .ok (.l2i, 1) := by decide +kernel
theorem dJ13_bitCount_95d88_57 : decode cJ13_bitCount_95d88 57 = .ok (.bipush 127, 2) := by decide +kernel
theorem dJ13_bitCount_95d88_59 : decode cJ13_bitCount_95d88 59 = .ok (.iand, 1) := by decide +kernel
theorem dJ13_bitCount_95d88_60 : decode cJ13_bitCount_95d88 60 = .ok (.ireturn, 1) := by decide +kernel
theorem dJ9_max_7cf53_0 : decode cJ9_max_7cf53 0 = .ok (.iload_n 0, 1) := by decide +kernel
theorem dJ9_max_7cf53_1 : decode cJ9_max_7cf53 1 = .ok (.iload_n 1, 1) := by decide +kernel
theorem dJ9_max_7cf53_2 : decode cJ9_max_7cf53 2 = .ok (.if_icmp .lt 7, 3) := by decide +kernel
theorem dJ9_max_7cf53_5 : decode cJ9_max_7cf53 5 = .ok (.iload_n 0, 1) := by decide +kernel
theorem dJ9_max_7cf53_6 : decode cJ9_max_7cf53 6 = .ok (.goto 4, 3) := by decide +kernel
theorem dJ9_max_7cf53_9 : decode cJ9_max_7cf53 9 = .ok (.iload_n 1, 1) := by decide +kernel
theorem dJ9_max_7cf53_10 : decode cJ9_max_7cf53 10 = .ok (.ireturn, 1) := by decide +kernel
theorem dJ9_min_7cf53_0 : decode cJ9_min_7cf53 0 = .ok (.iload_n 0, 1) := by decide +kernel
theorem dJ9_min_7cf53_1 : decode cJ9_min_7cf53 1 = .ok (.iload_n 1, 1) := by decide +kernel
theorem dJ9_min_7cf53_2 : decode cJ9_min_7cf53 2 = .ok (.if_icmp .gt 7, 3) := by decide +kernel
theorem dJ9_min_7cf53_5 : decode cJ9_min_7cf53 5 = .ok (.iload_n 0, 1) := by decide +kernel
theorem dJ9_min_7cf53_6 : decode cJ9_min_7cf53 6 = .ok (.goto 4, 3) := by decide +kernel
theorem dJ9_min_7cf53_9 : decode cJ9_min_7cf53 9 = .ok (.iload_n 1, 1) := by decide +kernel
theorem dJ9_min_7cf53_10 : decode cJ9_min_7cf53 10 = .ok (.ireturn, 1) := by decide +kernel
theorem dJ7_fill_d0a16_0 : decode cJ7_fill_d0a16 0 = .ok (.iconst 0, 1) := by decide +kernel
theorem dJ7_fill_d0a16_1 : decode cJ7_fill_d0a16 1 = .ok (.istore_n 3, 1) := by decide +kernel
theorem dJ7_fill_d0a16_2 : decode cJ7_fill_d0a16 2 = .ok (.aload_n 0, 1) := by decide +kernel
theorem dJ7_fill_d0a16_3 : decode cJ7_fill_d0a16 3 = .ok (.arraylength, 1) := by decide +kernel
theorem dJ7_fill_d0a16_4 : decode cJ7_fill_d0a16 4 = .ok (.istore 4, 2) := by decide +kernel
theorem dJ7_fill_d0a16_6 : decode cJ7_fill_d0a16 6 = .ok (.iload_n 3, 1) := by decide +kernel
theorem dJ7_fill_d0a16_7 : decode cJ7_fill_d0a16 7 = .ok (.iload 4, 2) := by decide +kernel
theorem dJ7_fill_d0a16_9 : decode cJ7_fill_d0a16 9 = .ok (.if_icmp .ge 13, 3) := by decide +kernel
theorem dJ7_fill_d0a16_12 : decode cJ7_fill_d0a16 12 = .ok (.aload_n 0, 1) := by decide +kernel
theorem dJ7_fill_d0a16_13 : decode cJ7_fill_d0a16 13 = .ok (.iload_n 3, 1) := by decide +kernel
theorem dJ7_fill_d0a16_14 : decode cJ7_fill_d0a16 14 = .ok (.lload_n 1, 1) := by decide +kernel
theorem dJ7_fill_d0a16_15 : decode cJ7_fill_d0a16 15 = .ok (.lastore, 1) := by decide +kernel
theorem dJ7_fill_d0a16_16 : decode cJ7_fill_d0a16 16 = .ok (.iinc 3 1, 3) := by decide +kernel
theorem dJ7_fill_d0a16_19 : decode cJ7_fill_d0a16 19 = .ok (.goto (-13), 3) := by decide +kernel
theorem dJ7_fill_d0a16_22 : decode cJ7_fill_d0a16 22 = .ok (.return_, 1) := by decide +kernel
theorem dL_cell_0 : decode cL_cell 0 = .ok (.iload_n 1, 1) := by decide +kernel
theorem dL_cell_1 : decode cL_cell 1 = .ok (.aload_n 0, 1) := by decide +kernel
theorem dL_cell_2 : decode cL_cell 2 = .ok (.arraylength, 1) := by decide +kernel
theorem dL_cell_3 : decode cL_cell 3 = .ok (.if_icmp .ge 9, 3) := by decide +kernel
theorem dL_cell_6 : decode cL_cell 6 = .ok (.aload_n 0, 1) := by decide +kernel
theorem dL_cell_7 : decode cL_cell 7 = .ok (.iload_n 1, 1) := by decide +kernel
theorem dL_cell_8 : decode cL_cell 8 = .ok (.iaload, 1) := by decide +kernel
theorem dL_cell_9 : decode cL_cell 9 = .ok (.goto 15, 3) := by decide +kernel
theorem dL_cell_12 : decode cL_cell 12 = .ok (.ldc 7, 2) := by decide +kernel
theorem dL_cell_14 : decode cL_cell 14 = .ok (.iload_n 1, 1) := by decide +kernel
theorem dL_cell_15 : decode cL_cell 15 = .ok (.sipush 4096, 3) := by decide +kernel
theorem dL_cell_18 : decode cL_cell 18 = .ok (.irem, 1) := by decide +kernel
theorem dL_cell_19 : decode cL_cell 19 = .ok (.imul, 1) := by decide +kernel
theorem dL_cell_20 : decode cL_cell 20 = .ok (.sipush 337, 3) := by decide +kernel
theorem dL_cell_23 : decode cL_cell 23 = .ok (.iadd, 1) := by decide +kernel
theorem dL_cell_24 : decode cL_cell 24 = .ok (.ldc 8, 2) := by decide +kernel
theorem dL_cell_26 : decode cL_cell 26 = .ok (.iand, 1) := by decide +kernel
theorem dL_cell_27 : decode cL_cell 27 = .ok (.ireturn, 1) := by decide +kernel
theorem dL_make_0 : decode cL_make 0 = .ok (.aload_n 0, 1) := by decide +kernel
theorem dL_make_1 : decode cL_make 1 = .ok (.iload_n 1, 1) := by decide +kernel
theorem dL_make_2 : decode cL_make 2 = .ok (.iload_n 2, 1) := by decide +kernel
theorem dL_make_3 : decode cL_make 3 = .ok (.iload_n 3, 1) := by decide +kernel
theorem dL_make_4 : decode cL_make 4 = .ok (.invokevirtual 9, 3) := by decide +kernel
theorem dL_make_7 : decode cL_make 7 = .ok (.ireturn, 1) := by decide +kernel
theorem dL_make_8 : decode cL_make 8 = .ok (.astore 4, 2) := by decide +kernel
theorem dL_make_10 : decode cL_make 10 = .ok (.ldc 17, 2) := by decide +kernel
theorem dL_make_12 : decode cL_make 12 = .ok (.ireturn, 1) := by decide +kernel
theorem dL_make_13 : decode cL_make 13 = .ok (.astore 4, 2) := by decide +kernel
theorem dL_make_15 : decode cL_make 15 = .ok (.ldc 20, 2) := by decide +kernel
theorem dL_make_17 : decode cL_make 17 = .ok (.ireturn, 1) := by decide +kernel
theorem dL_withdraw_0 : decode cL_withdraw 0 = .ok (.aload_n 0, 1) := by decide +kernel
theorem dL_withdraw_1 : decode cL_withdraw 1 = .ok (.iload_n 1, 1) := by decide +kernel
theorem dL_withdraw_2 : decode cL_withdraw 2 = .ok (.invokevirtual 21, 3) := by decide +kernel
theorem dL_withdraw_5 : decode cL_withdraw 5 = .ok (.ireturn, 1) := by decide +kernel
theorem dL_withdraw_6 : decode cL_withdraw 6 = .ok (.astore_n 2, 1) := by decide +kernel
theorem dL_withdraw_7 : decode cL_withdraw 7 = .ok (.ldc 17, 2) := by decide +kernel
theorem dL_withdraw_9 : decode cL_withdraw 9 = .ok (.ireturn, 1) := by decide +kernel
theorem dL_strict_0 : decode cL_strict 0 = .ok (.aload_n 0, 1) := by decide +kernel
theorem dL_strict_1 : decode cL_strict 1 = .ok (.iload_n 1, 1) := by decide +kernel
theorem dL_strict_2 : decode cL_strict 2 = .ok (.iload_n 2, 1) := by decide +kernel
theorem dL_strict_3 : decode cL_strict 3 = .ok (.invokevirtual 27, 3) := by decide +kernel
theorem dL_strict_6 : decode cL_strict 6 = .ok (.ifCond .eq 7, 3) := by decide +kernel
theorem dL_strict_9 : decode cL_strict 9 = .ok (.iconst 1, 1) := by decide +kernel
theorem dL_strict_10 : decode cL_strict 10 = .ok (.goto 4, 3) := by decide +kernel
theorem dL_strict_13 : decode cL_strict 13 = .ok (.iconst 0, 1) := by decide +kernel
theorem dL_strict_14 : decode cL_strict 14 = .ok (.ireturn, 1) := by decide +kernel
theorem dL_strict_15 : decode cL_strict 15 = .ok (.astore_n 3, 1) := by decide +kernel
theorem dL_strict_16 : decode cL_strict 16 = .ok (.ldc 17, 2) := by decide +kernel
theorem dL_strict_18 : decode cL_strict 18 = .ok (.ireturn, 1) := by decide +kernel
theorem dL_waive_0 : decode cL_waive 0 = .ok (.aload_n 0, 1) := by decide +kernel
theorem dL_waive_1 : decode cL_waive 1 = .ok (.iload_n 1, 1) := by decide +kernel
theorem dL_waive_2 : decode cL_waive 2 = .ok (.iload_n 2, 1) := by decide +kernel
theorem dL_waive_3 : decode cL_waive 3 = .ok (.invokevirtual 31, 3) := by decide +kernel
theorem dL_waive_6 : decode cL_waive 6 = .ok (.ireturn, 1) := by decide +kernel
theorem dL_waive_7 : decode cL_waive 7 = .ok (.astore_n 3, 1) := by decide +kernel
theorem dL_waive_8 : decode cL_waive 8 = .ok (.ldc 17, 2) := by decide +kernel
theorem dL_waive_10 : decode cL_waive 10 = .ok (.ireturn, 1) := by decide +kernel
theorem dL_waive_11 : decode cL_waive 11 = .ok (.astore_n 3, 1) := by decide +kernel
theorem dL_waive_12 : decode cL_waive 12 = .ok (.ldc 20, 2) := by decide +kernel
theorem dL_waive_14 : decode cL_waive 14 = .ok (.ireturn, 1) := by decide +kernel
theorem dL_come_0 : decode cL_come 0 = .ok (.aload_n 0, 1) := by decide +kernel
theorem dL_come_1 : decode cL_come 1 = .ok (.iload_n 1, 1) := by decide +kernel
theorem dL_come_2 : decode cL_come 2 = .ok (.invokevirtual 35, 3) := by decide +kernel
theorem dL_come_5 : decode cL_come 5 = .ok (.ireturn, 1) := by decide +kernel
theorem dL_come_6 : decode cL_come 6 = .ok (.astore_n 2, 1) := by decide +kernel
theorem dL_come_7 : decode cL_come 7 = .ok (.ldc 17, 2) := by decide +kernel
theorem dL_come_9 : decode cL_come 9 = .ok (.ireturn, 1) := by decide +kernel
theorem dL_come_10 : decode cL_come 10 = .ok (.astore_n 2, 1) := by decide +kernel
theorem dL_come_11 : decode cL_come 11 = .ok (.ldc 20, 2) := by decide +kernel
theorem dL_come_13 : decode cL_come 13 = .ok (.ireturn, 1) := by decide +kernel
theorem dL_go_0 : decode cL_go 0 = .ok (.aload_n 0, 1) := by decide +kernel
theorem dL_go_1 : decode cL_go 1 = .ok (.iload_n 1, 1) := by decide +kernel
theorem dL_go_2 : decode cL_go 2 = .ok (.invokevirtual 38, 3) := by decide +kernel
theorem dL_go_5 : decode cL_go 5 = .ok (.ireturn, 1) := by decide +kernel
theorem dL_go_6 : decode cL_go 6 = .ok (.astore_n 2, 1) := by decide +kernel
theorem dL_go_7 : decode cL_go 7 = .ok (.ldc 17, 2) := by decide +kernel
theorem dL_go_9 : decode cL_go 9 = .ok (.ireturn, 1) := by decide +kernel
theorem dL_go_10 : decode cL_go 10 = .ok (.astore_n 2, 1) := by decide +kernel
theorem dL_go_11 : decode cL_go 11 = .ok (.ldc 20, 2) := by decide +kernel
theorem dL_go_13 : decode cL_go 13 = .ok (.ireturn, 1) := by decide +kernel
theorem dL_pass_0 : decode cL_pass 0 = .ok (.aload_n 0, 1) := by decide +kernel
theorem dL_pass_1 : decode cL_pass 1 = .ok (.iload_n 1, 1) := by decide +kernel
theorem dL_pass_2 : decode cL_pass 2 = .ok (.invokevirtual 41, 3) := by decide +kernel
theorem dL_pass_5 : decode cL_pass 5 = .ok (.ireturn, 1) := by decide +kernel
theorem dL_pass_6 : decode cL_pass 6 = .ok (.astore_n 2, 1) := by decide +kernel
theorem dL_pass_7 : decode cL_pass 7 = .ok (.ldc 17, 2) := by decide +kernel
theorem dL_pass_9 : decode cL_pass 9 = .ok (.ireturn, 1) := by decide +kernel
theorem dL_back_0 : decode cL_back 0 = .ok (.aload_n 0, 1) := by decide +kernel
theorem dL_back_1 : decode cL_back 1 = .ok (.invokevirtual 51, 3) := by decide +kernel
theorem dL_back_4 : decode cL_back 4 = .ok (.ireturn, 1) := by decide +kernel
theorem dL_back_5 : decode cL_back 5 = .ok (.astore_n 1, 1) := by decide +kernel
theorem dL_back_6 : decode cL_back 6 = .ok (.ldc 17, 2) := by decide +kernel
theorem dL_back_8 : decode cL_back 8 = .ok (.ireturn, 1) := by decide +kernel
theorem dL_undo_0 : decode cL_undo 0 = .ok (.aload_n 0, 1) := by decide +kernel
theorem dL_undo_1 : decode cL_undo 1 = .ok (.invokevirtual 54, 3) := by decide +kernel
theorem dL_undo_4 : decode cL_undo 4 = .ok (.ireturn, 1) := by decide +kernel
theorem dL_undo_5 : decode cL_undo 5 = .ok (.astore_n 1, 1) := by decide +kernel
theorem dL_undo_6 : decode cL_undo 6 = .ok (.ldc 17, 2) := by decide +kernel
theorem dL_undo_8 : decode cL_undo 8 = .ok (.ireturn, 1) := by decide +kernel
theorem dL_let_0 : decode cL_let 0 = .ok (.aload_n 0, 1) := by decide +kernel
theorem dL_let_1 : decode cL_let 1 = .ok (.iload_n 1, 1) := by decide +kernel
theorem dL_let_2 : decode cL_let 2 = .ok (.invokevirtual 57, 3) := by decide +kernel
theorem dL_let_5 : decode cL_let 5 = .ok (.ireturn, 1) := by decide +kernel
theorem dL_let_6 : decode cL_let 6 = .ok (.astore_n 2, 1) := by decide +kernel
theorem dL_let_7 : decode cL_let 7 = .ok (.ldc 17, 2) := by decide +kernel
theorem dL_let_9 : decode cL_let 9 = .ok (.ireturn, 1) := by decide +kernel
theorem dL_empty_0 : decode cL_empty 0 = .ok (.aload_n 0, 1) := by decide +kernel
theorem dL_empty_1 : decode cL_empty 1 = .ok (.iload_n 1, 1) := by decide +kernel
theorem dL_empty_2 : decode cL_empty 2 = .ok (.invokevirtual 60, 3) := by decide +kernel
theorem dL_empty_5 : decode cL_empty 5 = .ok (.ireturn, 1) := by decide +kernel
theorem dL_empty_6 : decode cL_empty 6 = .ok (.astore_n 2, 1) := by decide +kernel
theorem dL_empty_7 : decode cL_empty 7 = .ok (.ldc 17, 2) := by decide +kernel
theorem dL_empty_9 : decode cL_empty 9 = .ok (.ireturn, 1) := by decide +kernel
theorem dL_fine_0 : decode cL_fine 0 = .ok (.aload_n 0, 1) := by decide +kernel
theorem dL_fine_1 : decode cL_fine 1 = .ok (.iload_n 1, 1) := by decide +kernel
theorem dL_fine_2 : decode cL_fine 2 = .ok (.invokevirtual 63, 3) := by decide +kernel
theorem dL_fine_5 : decode cL_fine 5 = .ok (.ireturn, 1) := by decide +kernel
theorem dL_fine_6 : decode cL_fine 6 = .ok (.astore_n 2, 1) := by decide +kernel
theorem dL_fine_7 : decode cL_fine 7 = .ok (.ldc 17, 2) := by decide +kernel
theorem dL_fine_9 : decode cL_fine 9 = .ok (.ireturn, 1) := by decide +kernel
theorem dL_isStrict_0 : decode cL_isStrict 0 = .ok (.aload_n 0, 1) := by decide +kernel
theorem dL_isStrict_1 : decode cL_isStrict 1 = .ok (.iload_n 1, 1) := by decide +kernel
theorem dL_isStrict_2 : decode cL_isStrict 2 = .ok (.invokevirtual 66, 3) := by decide +kernel
theorem dL_isStrict_5 : decode cL_isStrict 5 = .ok (.ifCond .eq 7, 3) := by decide +kernel
theorem dL_isStrict_8 : decode cL_isStrict 8 = .ok (.iconst 1, 1) := by decide +kernel
theorem dL_isStrict_9 : decode cL_isStrict 9 = .ok (.goto 4, 3) := by decide +kernel
theorem dL_isStrict_12 : decode cL_isStrict 12 = .ok (.iconst 0, 1) := by decide +kernel
theorem dL_isStrict_13 : decode cL_isStrict 13 = .ok (.ireturn, 1) := by decide +kernel
theorem dL_isStrict_14 : decode cL_isStrict 14 = .ok (.astore_n 2, 1) := by decide +kernel
theorem dL_isStrict_15 : decode cL_isStrict 15 = .ok (.ldc 17, 2) := by decide +kernel
theorem dL_isStrict_17 : decode cL_isStrict 17 = .ok (.ireturn, 1) := by decide +kernel
theorem dL_waived_0 : decode cL_waived 0 = .ok (.aload_n 0, 1) := by decide +kernel
theorem dL_waived_1 : decode cL_waived 1 = .ok (.iload_n 1, 1) := by decide +kernel
theorem dL_waived_2 : decode cL_waived 2 = .ok (.invokevirtual 70, 3) := by decide +kernel
theorem dL_waived_5 : decode cL_waived 5 = .ok (.ireturn, 1) := by decide +kernel
theorem dL_waived_6 : decode cL_waived 6 = .ok (.astore_n 2, 1) := by decide +kernel
theorem dL_waived_7 : decode cL_waived 7 = .ok (.ldc 17, 2) := by decide +kernel
theorem dL_waived_9 : decode cL_waived 9 = .ok (.ireturn, 1) := by decide +kernel
theorem dL_holds_0 : decode cL_holds 0 = .ok (.aload_n 0, 1) := by decide +kernel
theorem dL_holds_1 : decode cL_holds 1 = .ok (.iload_n 1, 1) := by decide +kernel
theorem dL_holds_2 : decode cL_holds 2 = .ok (.iload_n 2, 1) := by decide +kernel
theorem dL_holds_3 : decode cL_holds 3 = .ok (.invokevirtual 73, 3) := by decide +kernel
theorem dL_holds_6 : decode cL_holds 6 = .ok (.ifCond .eq 7, 3) := by decide +kernel
theorem dL_holds_9 : decode cL_holds 9 = .ok (.iconst 1, 1) := by decide +kernel
theorem dL_holds_10 : decode cL_holds 10 = .ok (.goto 4, 3) := by decide +kernel
theorem dL_holds_13 : decode cL_holds 13 = .ok (.iconst 0, 1) := by decide +kernel
theorem dL_holds_14 : decode cL_holds 14 = .ok (.ireturn, 1) := by decide +kernel
theorem dL_holds_15 : decode cL_holds 15 = .ok (.astore_n 3, 1) := by decide +kernel
theorem dL_holds_16 : decode cL_holds 16 = .ok (.ldc 17, 2) := by decide +kernel
theorem dL_holds_18 : decode cL_holds 18 = .ok (.ireturn, 1) := by decide +kernel
theorem dL_holds_19 : decode cL_holds 19 = .ok (.astore_n 3, 1) := by decide +kernel
theorem dL_holds_20 : decode cL_holds 20 = .ok (.ldc 20, 2) := by decide +kernel
theorem dL_holds_22 : decode cL_holds 22 = .ok (.ireturn, 1) := by decide +kernel
theorem dL_refused_0 : decode cL_refused 0 = .ok (.aload_n 0, 1) := by decide +kernel
theorem dL_refused_1 : decode cL_refused 1 = .ok (.iload_n 1, 1) := by decide +kernel
theorem dL_refused_2 : decode cL_refused 2 = .ok (.invokevirtual 77, 3) := by decide +kernel
theorem dL_refused_5 : decode cL_refused 5 = .ok (.ireturn, 1) := by decide +kernel
theorem dL_refused_6 : decode cL_refused 6 = .ok (.astore_n 2, 1) := by decide +kernel
theorem dL_refused_7 : decode cL_refused 7 = .ok (.ldc 17, 2) := by decide +kernel
theorem dL_refused_9 : decode cL_refused 9 = .ok (.ireturn, 1) := by decide +kernel
theorem dL_sum_0 : decode cL_sum 0 = .ok (.aload_n 0, 1) := by decide +kernel
theorem dL_sum_1 : decode cL_sum 1 = .ok (.iload_n 1, 1) := by decide +kernel
theorem dL_sum_2 : decode cL_sum 2 = .ok (.invokevirtual 80, 3) := by decide +kernel
theorem dL_sum_5 : decode cL_sum 5 = .ok (.ireturn, 1) := by decide +kernel
theorem dL_sum_6 : decode cL_sum 6 = .ok (.astore_n 2, 1) := by decide +kernel
theorem dL_sum_7 : decode cL_sum 7 = .ok (.ldc 17, 2) := by decide +kernel
theorem dL_sum_9 : decode cL_sum 9 = .ok (.ireturn, 1) := by decide +kernel
theorem dL_ahead_0 : decode cL_ahead 0 = .ok (.aload_n 0, 1) := by decide +kernel
theorem dL_ahead_1 : decode cL_ahead 1 = .ok (.iload_n 1, 1) := by decide +kernel
theorem dL_ahead_2 : decode cL_ahead 2 = .ok (.invokevirtual 83, 3) := by decide +kernel
theorem dL_ahead_5 : decode cL_ahead 5 = .ok (.ireturn, 1) := by decide +kernel
theorem dL_ahead_6 : decode cL_ahead 6 = .ok (.astore_n 2, 1) := by decide +kernel
theorem dL_ahead_7 : decode cL_ahead 7 = .ok (.ldc 17, 2) := by decide +kernel
theorem dL_ahead_9 : decode cL_ahead 9 = .ok (.ireturn, 1) := by decide +kernel
theorem dL_stand_0 : decode cL_stand 0 = .ok (.aload_n 0, 1) := by decide +kernel
theorem dL_stand_1 : decode cL_stand 1 = .ok (.iload_n 1, 1) := by decide +kernel
theorem dL_stand_2 : decode cL_stand 2 = .ok (.invokevirtual 86, 3) := by decide +kernel
theorem dL_stand_5 : decode cL_stand 5 = .ok (.ifCond .eq 7, 3) := by decide +kernel
theorem dL_stand_8 : decode cL_stand 8 = .ok (.iconst 1, 1) := by decide +kernel
theorem dL_stand_9 : decode cL_stand 9 = .ok (.goto 4, 3) := by decide +kernel
theorem dL_stand_12 : decode cL_stand 12 = .ok (.iconst 0, 1) := by decide +kernel
theorem dL_stand_13 : decode cL_stand 13 = .ok (.ireturn, 1) := by decide +kernel
theorem dL_stand_14 : decode cL_stand 14 = .ok (.astore_n 2, 1) := by decide +kernel
theorem dL_stand_15 : decode cL_stand 15 = .ok (.ldc 17, 2) := by decide +kernel
theorem dL_stand_17 : decode cL_stand 17 = .ok (.ireturn, 1) := by decide +kernel
theorem dL_split_0 : decode cL_split 0 = .ok (.aload_n 0, 1) := by decide +kernel
theorem dL_split_1 : decode cL_split 1 = .ok (.iload_n 1, 1) := by decide +kernel
theorem dL_split_2 : decode cL_split 2 = .ok (.invokevirtual 89, 3) := by decide +kernel
theorem dL_split_5 : decode cL_split 5 = .ok (.ifCond .eq 7, 3) := by decide +kernel
theorem dL_split_8 : decode cL_split 8 = .ok (.iconst 1, 1) := by decide +kernel
theorem dL_split_9 : decode cL_split 9 = .ok (.goto 4, 3) := by decide +kernel
theorem dL_split_12 : decode cL_split 12 = .ok (.iconst 0, 1) := by decide +kernel
theorem dL_split_13 : decode cL_split 13 = .ok (.ireturn, 1) := by decide +kernel
theorem dL_split_14 : decode cL_split 14 = .ok (.astore_n 2, 1) := by decide +kernel
theorem dL_split_15 : decode cL_split 15 = .ok (.ldc 17, 2) := by decide +kernel
theorem dL_split_17 : decode cL_split 17 = .ok (.ireturn, 1) := by decide +kernel
theorem dL_join_0 : decode cL_join 0 = .ok (.aload_n 0, 1) := by decide +kernel
theorem dL_join_1 : decode cL_join 1 = .ok (.iload_n 1, 1) := by decide +kernel
theorem dL_join_2 : decode cL_join 2 = .ok (.invokevirtual 92, 3) := by decide +kernel
theorem dL_join_5 : decode cL_join 5 = .ok (.ifCond .eq 7, 3) := by decide +kernel
theorem dL_join_8 : decode cL_join 8 = .ok (.iconst 1, 1) := by decide +kernel
theorem dL_join_9 : decode cL_join 9 = .ok (.goto 4, 3) := by decide +kernel
theorem dL_join_12 : decode cL_join 12 = .ok (.iconst 0, 1) := by decide +kernel
theorem dL_join_13 : decode cL_join 13 = .ok (.ireturn, 1) := by decide +kernel
theorem dL_join_14 : decode cL_join 14 = .ok (.astore_n 2, 1) := by decide +kernel
theorem dL_join_15 : decode cL_join 15 = .ok (.ldc 17, 2) := by decide +kernel
theorem dL_join_17 : decode cL_join 17 = .ok (.ireturn, 1) := by decide +kernel
theorem dL_joined_0 : decode cL_joined 0 = .ok (.aload_n 0, 1) := by decide +kernel
theorem dL_joined_1 : decode cL_joined 1 = .ok (.iload_n 1, 1) := by decide +kernel
theorem dL_joined_2 : decode cL_joined 2 = .ok (.invokevirtual 95, 3) := by decide +kernel
theorem dL_joined_5 : decode cL_joined 5 = .ok (.ireturn, 1) := by decide +kernel
theorem dL_joined_6 : decode cL_joined 6 = .ok (.astore_n 2, 1) := by decide +kernel
theorem dL_joined_7 : decode cL_joined 7 = .ok (.ldc 17, 2) := by decide +kernel
theorem dL_joined_9 : decode cL_joined 9 = .ok (.ireturn, 1) := by decide +kernel
theorem dL_forced_0 : decode cL_forced 0 = .ok (.aload_n 0, 1) := by decide +kernel
theorem dL_forced_1 : decode cL_forced 1 = .ok (.iload_n 1, 1) := by decide +kernel
theorem dL_forced_2 : decode cL_forced 2 = .ok (.invokevirtual 98, 3) := by decide +kernel
theorem dL_forced_5 : decode cL_forced 5 = .ok (.ireturn, 1) := by decide +kernel
theorem dL_forced_6 : decode cL_forced 6 = .ok (.astore_n 2, 1) := by decide +kernel
theorem dL_forced_7 : decode cL_forced 7 = .ok (.ldc 17, 2) := by decide +kernel
theorem dL_forced_9 : decode cL_forced 9 = .ok (.ireturn, 1) := by decide +kernel
theorem dL_follows_0 : decode cL_follows 0 = .ok (.aload_n 0, 1) := by decide +kernel
theorem dL_follows_1 : decode cL_follows 1 = .ok (.iload_n 1, 1) := by decide +kernel
theorem dL_follows_2 : decode cL_follows 2 = .ok (.invokevirtual 101, 3) := by decide +kernel
theorem dL_follows_5 : decode cL_follows 5 = .ok (.ifCond .eq 7, 3) := by decide +kernel
theorem dL_follows_8 : decode cL_follows 8 = .ok (.iconst 1, 1) := by decide +kernel
theorem dL_follows_9 : decode cL_follows 9 = .ok (.goto 4, 3) := by decide +kernel
theorem dL_follows_12 : decode cL_follows 12 = .ok (.iconst 0, 1) := by decide +kernel
theorem dL_follows_13 : decode cL_follows 13 = .ok (.ireturn, 1) := by decide +kernel
theorem dL_follows_14 : decode cL_follows 14 = .ok (.astore_n 2, 1) := by decide +kernel
theorem dL_follows_15 : decode cL_follows 15 = .ok (.ldc 17, 2) := by decide +kernel
theorem dL_follows_17 : decode cL_follows 17 = .ok (.ireturn, 1) := by decide +kernel
theorem dL_comes_0 : decode cL_comes 0 = .ok (.aload_n 0, 1) := by decide +kernel
theorem dL_comes_1 : decode cL_comes 1 = .ok (.iload_n 1, 1) := by decide +kernel
theorem dL_comes_2 : decode cL_comes 2 = .ok (.invokevirtual 104, 3) := by decide +kernel
theorem dL_comes_5 : decode cL_comes 5 = .ok (.ifCond .eq 7, 3) := by decide +kernel
theorem dL_comes_8 : decode cL_comes 8 = .ok (.iconst 1, 1) := by decide +kernel
theorem dL_comes_9 : decode cL_comes 9 = .ok (.goto 4, 3) := by decide +kernel
theorem dL_comes_12 : decode cL_comes 12 = .ok (.iconst 0, 1) := by decide +kernel
theorem dL_comes_13 : decode cL_comes 13 = .ok (.ireturn, 1) := by decide +kernel
theorem dL_comes_14 : decode cL_comes 14 = .ok (.astore_n 2, 1) := by decide +kernel
theorem dL_comes_15 : decode cL_comes 15 = .ok (.ldc 17, 2) := by decide +kernel
theorem dL_comes_17 : decode cL_comes 17 = .ok (.ireturn, 1) := by decide +kernel
theorem dL_acts_0 : decode cL_acts 0 = .ok (.iload_n 1, 1) := by decide +kernel
theorem dL_acts_1 : decode cL_acts 1 = .ok (.bipush 16, 2) := by decide +kernel
theorem dL_acts_3 : decode cL_acts 3 = .ok (.idiv, 1) := by decide +kernel
theorem dL_acts_4 : decode cL_acts 4 = .ok (.istore_n 2, 1) := by decide +kernel
theorem dL_acts_5 : decode cL_acts 5 = .ok (.iload_n 1, 1) := by decide +kernel
theorem dL_acts_6 : decode cL_acts 6 = .ok (.bipush 16, 2) := by decide +kernel
theorem dL_acts_8 : decode cL_acts 8 = .ok (.irem, 1) := by decide +kernel
theorem dL_acts_9 : decode cL_acts 9 = .ok (.tableswitch 178 0 12 #[67, 67, 67, 67, 112, 121, 121, 144, 160, 160, 160, 169, 169], 67) := by decide +kernel
theorem dL_acts_76 : decode cL_acts 76 = .ok (.aload_n 0, 1) := by decide +kernel
theorem dL_acts_77 : decode cL_acts 77 = .ok (.iload_n 2, 1) := by decide +kernel
theorem dL_acts_78 : decode cL_acts 78 = .ok (.bipush 11, 2) := by decide +kernel
theorem dL_acts_80 : decode cL_acts 80 = .ok (.irem, 1) := by decide +kernel
theorem dL_acts_81 : decode cL_acts 81 = .ok (.iload_n 2, 1) := by decide +kernel
theorem dL_acts_82 : decode cL_acts 82 = .ok (.bipush 11, 2) := by decide +kernel
theorem dL_acts_84 : decode cL_acts 84 = .ok (.idiv, 1) := by decide +kernel
theorem dL_acts_85 : decode cL_acts 85 = .ok (.bipush 65, 2) := by decide +kernel
theorem dL_acts_87 : decode cL_acts 87 = .ok (.irem, 1) := by decide +kernel
theorem dL_acts_88 : decode cL_acts 88 = .ok (.iload_n 2, 1) := by decide +kernel
theorem dL_acts_89 : decode cL_acts 89 = .ok (.sipush 715, 3) := by decide +kernel
theorem dL_acts_92 : decode cL_acts 92 = .ok (.idiv, 1) := by decide +kernel
theorem dL_acts_93 : decode cL_acts 93 = .ok (.iconst 3, 1) := by decide +kernel
theorem dL_acts_94 : decode cL_acts 94 = .ok (.irem, 1) := by decide +kernel
theorem dL_acts_95 : decode cL_acts 95 = .ok (.ifCond .ne 8, 3) := by decide +kernel
theorem dL_acts_98 : decode cL_acts 98 = .ok (.bipush 127, 2) := by decide +kernel
theorem dL_acts_100 : decode cL_acts 100 = .ok (.goto 5, 3) := by decide +kernel
theorem dL_acts_103 : decode cL_acts 103 = .ok (.bipush 37, 2) := by decide +kernel
theorem dL_acts_105 : decode cL_acts 105 = .ok (.iand, 1) := by decide +kernel
theorem dL_acts_106 : decode cL_acts 106 = .ok (.iload_n 2, 1) := by decide +kernel
theorem dL_acts_107 : decode cL_acts 107 = .ok (.sipush 2145, 3) := by decide +kernel
theorem dL_acts_110 : decode cL_acts 110 = .ok (.idiv, 1) := by decide +kernel
theorem dL_acts_111 : decode cL_acts 111 = .ok (.bipush 64, 2) := by decide +kernel
theorem dL_acts_113 : decode cL_acts 113 = .ok (.irem, 1) := by decide +kernel
theorem dL_acts_114 : decode cL_acts 114 = .ok (.bipush 26, 2) := by decide +kernel
theorem dL_acts_116 : decode cL_acts 116 = .ok (.iand, 1) := by decide +kernel
theorem dL_acts_117 : decode cL_acts 117 = .ok (.invokestatic 107, 3) := by decide +kernel
theorem dL_acts_120 : decode cL_acts 120 = .ok (.ireturn, 1) := by decide +kernel
theorem dL_acts_121 : decode cL_acts 121 = .ok (.aload_n 0, 1) := by decide +kernel
theorem dL_acts_122 : decode cL_acts 122 = .ok (.iload_n 2, 1) := by decide +kernel
theorem dL_acts_123 : decode cL_acts 123 = .ok (.bipush 11, 2) := by decide +kernel
theorem dL_acts_125 : decode cL_acts 125 = .ok (.irem, 1) := by decide +kernel
theorem dL_acts_126 : decode cL_acts 126 = .ok (.invokestatic 112, 3) := by decide +kernel
theorem dL_acts_129 : decode cL_acts 129 = .ok (.ireturn, 1) := by decide +kernel
theorem dL_acts_130 : decode cL_acts 130 = .ok (.aload_n 0, 1) := by decide +kernel
theorem dL_acts_131 : decode cL_acts 131 = .ok (.iload_n 2, 1) := by decide +kernel
theorem dL_acts_132 : decode cL_acts 132 = .ok (.bipush 11, 2) := by decide +kernel
theorem dL_acts_134 : decode cL_acts 134 = .ok (.irem, 1) := by decide +kernel
theorem dL_acts_135 : decode cL_acts 135 = .ok (.iload_n 2, 1) := by decide +kernel
theorem dL_acts_136 : decode cL_acts 136 = .ok (.bipush 11, 2) := by decide +kernel
theorem dL_acts_138 : decode cL_acts 138 = .ok (.idiv, 1) := by decide +kernel
theorem dL_acts_139 : decode cL_acts 139 = .ok (.iconst 3, 1) := by decide +kernel
theorem dL_acts_140 : decode cL_acts 140 = .ok (.irem, 1) := by decide +kernel
theorem dL_acts_141 : decode cL_acts 141 = .ok (.ifCond .le 7, 3) := by decide +kernel
theorem dL_acts_144 : decode cL_acts 144 = .ok (.iconst 1, 1) := by decide +kernel
theorem dL_acts_145 : decode cL_acts 145 = .ok (.goto 4, 3) := by decide +kernel
theorem dL_acts_148 : decode cL_acts 148 = .ok (.iconst 0, 1) := by decide +kernel
theorem dL_acts_149 : decode cL_acts 149 = .ok (.invokestatic 115, 3) := by decide +kernel
theorem dL_acts_152 : decode cL_acts 152 = .ok (.ireturn, 1) := by decide +kernel
theorem dL_acts_153 : decode cL_acts 153 = .ok (.aload_n 0, 1) := by decide +kernel
theorem dL_acts_154 : decode cL_acts 154 = .ok (.iload_n 2, 1) := by decide +kernel
theorem dL_acts_155 : decode cL_acts 155 = .ok (.bipush 11, 2) := by decide +kernel
theorem dL_acts_157 : decode cL_acts 157 = .ok (.irem, 1) := by decide +kernel
theorem dL_acts_158 : decode cL_acts 158 = .ok (.iload_n 2, 1) := by decide +kernel
theorem dL_acts_159 : decode cL_acts 159 = .ok (.bipush 11, 2) := by decide +kernel
theorem dL_acts_161 : decode cL_acts 161 = .ok (.idiv, 1) := by decide +kernel
theorem dL_acts_162 : decode cL_acts 162 = .ok (.bipush 32, 2) := by decide +kernel
theorem dL_acts_164 : decode cL_acts 164 = .ok (.irem, 1) := by decide +kernel
theorem dL_acts_165 : decode cL_acts 165 = .ok (.invokestatic 119, 3) := by decide +kernel
theorem dL_acts_168 : decode cL_acts 168 = .ok (.ireturn, 1) := by decide +kernel
theorem dL_acts_169 : decode cL_acts 169 = .ok (.aload_n 0, 1) := by decide +kernel
theorem dL_acts_170 : decode cL_acts 170 = .ok (.iload_n 2, 1) := by decide +kernel
theorem dL_acts_171 : decode cL_acts 171 = .ok (.bipush 7, 2) := by decide +kernel
theorem dL_acts_173 : decode cL_acts 173 = .ok (.irem, 1) := by decide +kernel
theorem dL_acts_174 : decode cL_acts 174 = .ok (.invokestatic 122, 3) := by decide +kernel
theorem dL_acts_177 : decode cL_acts 177 = .ok (.ireturn, 1) := by decide +kernel
theorem dL_acts_178 : decode cL_acts 178 = .ok (.aload_n 0, 1) := by decide +kernel
theorem dL_acts_179 : decode cL_acts 179 = .ok (.iload_n 2, 1) := by decide +kernel
theorem dL_acts_180 : decode cL_acts 180 = .ok (.bipush 7, 2) := by decide +kernel
theorem dL_acts_182 : decode cL_acts 182 = .ok (.irem, 1) := by decide +kernel
theorem dL_acts_183 : decode cL_acts 183 = .ok (.invokestatic 124, 3) := by decide +kernel
theorem dL_acts_186 : decode cL_acts 186 = .ok (.ireturn, 1) := by decide +kernel
theorem dL_acts_187 : decode cL_acts 187 = .ok (.aload_n 0, 1) := by decide +kernel
theorem dL_acts_188 : decode cL_acts 188 = .ok (.iload_n 2, 1) := by decide +kernel
theorem dL_acts_189 : decode cL_acts 189 = .ok (.bipush 9, 2) := by decide +kernel
theorem dL_acts_191 : decode cL_acts 191 = .ok (.irem, 1) := by decide +kernel
theorem dL_acts_192 : decode cL_acts 192 = .ok (.invokestatic 126, 3) := by decide +kernel
theorem dL_acts_195 : decode cL_acts 195 = .ok (.ireturn, 1) := by decide +kernel
theorem dL_numbers_0 : decode cL_numbers 0 = .ok (.bipush 59, 2) := by decide +kernel
theorem dL_numbers_2 : decode cL_numbers 2 = .ok (.istore_n 1, 1) := by decide +kernel
theorem dL_numbers_3 : decode cL_numbers 3 = .ok (.bipush 31, 2) := by decide +kernel
theorem dL_numbers_5 : decode cL_numbers 5 = .ok (.iload_n 1, 1) := by decide +kernel
theorem dL_numbers_6 : decode cL_numbers 6 = .ok (.imul, 1) := by decide +kernel
theorem dL_numbers_7 : decode cL_numbers 7 = .ok (.aload_n 0, 1) := by decide +kernel
theorem dL_numbers_8 : decode cL_numbers 8 = .ok (.invokevirtual 128, 3) := by decide +kernel
theorem dL_numbers_11 : decode cL_numbers 11 = .ok (.iadd, 1) := by decide +kernel
theorem dL_numbers_12 : decode cL_numbers 12 = .ok (.bipush 11, 2) := by decide +kernel
theorem dL_numbers_14 : decode cL_numbers 14 = .ok (.aload_n 0, 1) := by decide +kernel
theorem dL_numbers_15 : decode cL_numbers 15 = .ok (.invokevirtual 131, 3) := by decide +kernel
theorem dL_numbers_18 : decode cL_numbers 18 = .ok (.imul, 1) := by decide +kernel
theorem dL_numbers_19 : decode cL_numbers 19 = .ok (.iadd, 1) := by decide +kernel
theorem dL_numbers_20 : decode cL_numbers 20 = .ok (.sipush 709, 3) := by decide +kernel
theorem dL_numbers_23 : decode cL_numbers 23 = .ok (.aload_n 0, 1) := by decide +kernel
theorem dL_numbers_24 : decode cL_numbers 24 = .ok (.invokevirtual 134, 3) := by decide +kernel
theorem dL_numbers_27 : decode cL_numbers 27 = .ok (.imul, 1) := by decide +kernel
theorem dL_numbers_28 : decode cL_numbers 28 = .ok (.iadd, 1) := by decide +kernel
theorem dL_numbers_29 : decode cL_numbers 29 = .ok (.istore_n 1, 1) := by decide +kernel
theorem dL_numbers_30 : decode cL_numbers 30 = .ok (.bipush 31, 2) := by decide +kernel
theorem dL_numbers_32 : decode cL_numbers 32 = .ok (.iload_n 1, 1) := by decide +kernel
theorem dL_numbers_33 : decode cL_numbers 33 = .ok (.imul, 1) := by decide +kernel
theorem dL_numbers_34 : decode cL_numbers 34 = .ok (.aload_n 0, 1) := by decide +kernel
theorem dL_numbers_35 : decode cL_numbers 35 = .ok (.invokevirtual 137, 3) := by decide +kernel
theorem dL_numbers_38 : decode cL_numbers 38 = .ok (.iadd, 1) := by decide +kernel
theorem dL_numbers_39 : decode cL_numbers 39 = .ok (.istore_n 1, 1) := by decide +kernel
theorem dL_numbers_40 : decode cL_numbers 40 = .ok (.iconst 0, 1) := by decide +kernel
theorem dL_numbers_41 : decode cL_numbers 41 = .ok (.istore_n 2, 1) := by decide +kernel
theorem dL_numbers_42 : decode cL_numbers 42 = .ok (.iload_n 2, 1) := by decide +kernel
theorem dL_numbers_43 : decode cL_numbers 43 = .ok (.aload_n 0, 1) := by decide +kernel
theorem dL_numbers_44 : decode cL_numbers 44 = .ok (.invokevirtual 128, 3) := by decide +kernel
theorem dL_numbers_47 : decode cL_numbers 47 = .ok (.if_icmp .ge 73, 3) := by decide +kernel
theorem dL_numbers_50 : decode cL_numbers 50 = .ok (.iload_n 2, 1) := by decide +kernel
theorem dL_numbers_51 : decode cL_numbers 51 = .ok (.bipush 10, 2) := by decide +kernel
theorem dL_numbers_53 : decode cL_numbers 53 = .ok (.if_icmp .ge 67, 3) := by decide +kernel
theorem dL_numbers_56 : decode cL_numbers 56 = .ok (.bipush 31, 2) := by decide +kernel
theorem dL_numbers_58 : decode cL_numbers 58 = .ok (.iload_n 1, 1) := by decide +kernel
theorem dL_numbers_59 : decode cL_numbers 59 = .ok (.imul, 1) := by decide +kernel
theorem dL_numbers_60 : decode cL_numbers 60 = .ok (.aload_n 0, 1) := by decide +kernel
theorem dL_numbers_61 : decode cL_numbers 61 = .ok (.iload_n 2, 1) := by decide +kernel
theorem dL_numbers_62 : decode cL_numbers 62 = .ok (.invokestatic 140, 3) := by decide +kernel
theorem dL_numbers_65 : decode cL_numbers 65 = .ok (.iadd, 1) := by decide +kernel
theorem dL_numbers_66 : decode cL_numbers 66 = .ok (.bipush 64, 2) := by decide +kernel
theorem dL_numbers_68 : decode cL_numbers 68 = .ok (.aload_n 0, 1) := by decide +kernel
theorem dL_numbers_69 : decode cL_numbers 69 = .ok (.iload_n 2, 1) := by decide +kernel
theorem dL_numbers_70 : decode cL_numbers 70 = .ok (.invokestatic 143, 3) := by decide +kernel
theorem dL_numbers_73 : decode cL_numbers 73 = .ok (.imul, 1) := by decide +kernel
theorem dL_numbers_74 : decode cL_numbers 74 = .ok (.iadd, 1) := by decide +kernel
theorem dL_numbers_75 : decode cL_numbers 75 = .ok (.sipush 4099, 3) := by decide +kernel
theorem dL_numbers_78 : decode cL_numbers 78 = .ok (.aload_n 0, 1) := by decide +kernel
theorem dL_numbers_79 : decode cL_numbers 79 = .ok (.iload_n 2, 1) := by decide +kernel
theorem dL_numbers_80 : decode cL_numbers 80 = .ok (.invokestatic 146, 3) := by decide +kernel
theorem dL_numbers_83 : decode cL_numbers 83 = .ok (.imul, 1) := by decide +kernel
theorem dL_numbers_84 : decode cL_numbers 84 = .ok (.iadd, 1) := by decide +kernel
theorem dL_numbers_85 : decode cL_numbers 85 = .ok (.istore_n 1, 1) := by decide +kernel
theorem dL_numbers_86 : decode cL_numbers 86 = .ok (.bipush 31, 2) := by decide +kernel
theorem dL_numbers_88 : decode cL_numbers 88 = .ok (.iload_n 1, 1) := by decide +kernel
theorem dL_numbers_89 : decode cL_numbers 89 = .ok (.imul, 1) := by decide +kernel
theorem dL_numbers_90 : decode cL_numbers 90 = .ok (.aload_n 0, 1) := by decide +kernel
theorem dL_numbers_91 : decode cL_numbers 91 = .ok (.iload_n 2, 1) := by decide +kernel
theorem dL_numbers_92 : decode cL_numbers 92 = .ok (.invokestatic 148, 3) := by decide +kernel
theorem dL_numbers_95 : decode cL_numbers 95 = .ok (.iadd, 1) := by decide +kernel
theorem dL_numbers_96 : decode cL_numbers 96 = .ok (.iconst 2, 1) := by decide +kernel
theorem dL_numbers_97 : decode cL_numbers 97 = .ok (.aload_n 0, 1) := by decide +kernel
theorem dL_numbers_98 : decode cL_numbers 98 = .ok (.iload_n 2, 1) := by decide +kernel
theorem dL_numbers_99 : decode cL_numbers 99 = .ok (.invokestatic 150, 3) := by decide +kernel
theorem dL_numbers_102 : decode cL_numbers 102 = .ok (.imul, 1) := by decide +kernel
theorem dL_numbers_103 : decode cL_numbers 103 = .ok (.iadd, 1) := by decide +kernel
theorem dL_numbers_104 : decode cL_numbers 104 = .ok (.bipush 67, 2) := by decide +kernel
theorem dL_numbers_106 : decode cL_numbers 106 = .ok (.aload_n 0, 1) := by decide +kernel
theorem dL_numbers_107 : decode cL_numbers 107 = .ok (.iload_n 2, 1) := by decide +kernel
theorem dL_numbers_108 : decode cL_numbers 108 = .ok (.invokestatic 153, 3) := by decide +kernel
theorem dL_numbers_111 : decode cL_numbers 111 = .ok (.imul, 1) := by decide +kernel
theorem dL_numbers_112 : decode cL_numbers 112 = .ok (.iadd, 1) := by decide +kernel
theorem dL_numbers_113 : decode cL_numbers 113 = .ok (.istore_n 1, 1) := by decide +kernel
theorem dL_numbers_114 : decode cL_numbers 114 = .ok (.iinc 2 1, 3) := by decide +kernel
theorem dL_numbers_117 : decode cL_numbers 117 = .ok (.goto (-75), 3) := by decide +kernel
theorem dL_numbers_120 : decode cL_numbers 120 = .ok (.iload_n 1, 1) := by decide +kernel
theorem dL_numbers_121 : decode cL_numbers 121 = .ok (.ireturn, 1) := by decide +kernel
theorem dL_hangs_0 : decode cL_hangs 0 = .ok (.aload_n 0, 1) := by decide +kernel
theorem dL_hangs_1 : decode cL_hangs 1 = .ok (.invokevirtual 156, 3) := by decide +kernel
theorem dL_hangs_4 : decode cL_hangs 4 = .ok (.istore_n 2, 1) := by decide +kernel
theorem dL_hangs_5 : decode cL_hangs 5 = .ok (.aload_n 0, 1) := by decide +kernel
theorem dL_hangs_6 : decode cL_hangs 6 = .ok (.invokevirtual 159, 3) := by decide +kernel
theorem dL_hangs_9 : decode cL_hangs 9 = .ok (.istore_n 3, 1) := by decide +kernel
theorem dL_hangs_10 : decode cL_hangs 10 = .ok (.iconst 0, 1) := by decide +kernel
theorem dL_hangs_11 : decode cL_hangs 11 = .ok (.istore 4, 2) := by decide +kernel
theorem dL_hangs_13 : decode cL_hangs 13 = .ok (.aload_n 0, 1) := by decide +kernel
theorem dL_hangs_14 : decode cL_hangs 14 = .ok (.invokevirtual 137, 3) := by decide +kernel
theorem dL_hangs_17 : decode cL_hangs 17 = .ok (.aload_n 0, 1) := by decide +kernel
theorem dL_hangs_18 : decode cL_hangs 18 = .ok (.invokevirtual 162, 3) := by decide +kernel
theorem dL_hangs_21 : decode cL_hangs 21 = .ok (.if_icmp .ne 15, 3) := by decide +kernel
theorem dL_hangs_24 : decode cL_hangs 24 = .ok (.iload_n 3, 1) := by decide +kernel
theorem dL_hangs_25 : decode cL_hangs 25 = .ok (.iload_n 2, 1) := by decide +kernel
theorem dL_hangs_26 : decode cL_hangs 26 = .ok (.iconst (-1), 1) := by decide +kernel
theorem dL_hangs_27 : decode cL_hangs 27 = .ok (.ixor, 1) := by decide +kernel
theorem dL_hangs_28 : decode cL_hangs 28 = .ok (.iand, 1) := by decide +kernel
theorem dL_hangs_29 : decode cL_hangs 29 = .ok (.ifCond .ne 7, 3) := by decide +kernel
theorem dL_hangs_32 : decode cL_hangs 32 = .ok (.iconst 1, 1) := by decide +kernel
theorem dL_hangs_33 : decode cL_hangs 33 = .ok (.goto 4, 3) := by decide +kernel
theorem dL_hangs_36 : decode cL_hangs 36 = .ok (.iconst 0, 1) := by decide +kernel
theorem dL_hangs_37 : decode cL_hangs 37 = .ok (.istore 5, 2) := by decide +kernel
theorem dL_hangs_39 : decode cL_hangs 39 = .ok (.iconst 0, 1) := by decide +kernel
theorem dL_hangs_40 : decode cL_hangs 40 = .ok (.istore 6, 2) := by decide +kernel
theorem dL_hangs_42 : decode cL_hangs 42 = .ok (.iload 6, 2) := by decide +kernel
theorem dL_hangs_44 : decode cL_hangs 44 = .ok (.aload_n 0, 1) := by decide +kernel
theorem dL_hangs_45 : decode cL_hangs 45 = .ok (.invokevirtual 128, 3) := by decide +kernel
theorem dL_hangs_48 : decode cL_hangs 48 = .ok (.if_icmp .ge 159, 3) := by decide +kernel
theorem dL_hangs_51 : decode cL_hangs 51 = .ok (.iload 5, 2) := by decide +kernel
theorem dL_hangs_53 : decode cL_hangs 53 = .ok (.ifCond .eq 154, 3) := by decide +kernel
theorem dL_hangs_56 : decode cL_hangs 56 = .ok (.iload_n 2, 1) := by decide +kernel
theorem dL_hangs_57 : decode cL_hangs 57 = .ok (.iload 6, 2) := by decide +kernel
theorem dL_hangs_59 : decode cL_hangs 59 = .ok (.ishr, 1) := by decide +kernel
theorem dL_hangs_60 : decode cL_hangs 60 = .ok (.iconst 1, 1) := by decide +kernel
theorem dL_hangs_61 : decode cL_hangs 61 = .ok (.iand, 1) := by decide +kernel
theorem dL_hangs_62 : decode cL_hangs 62 = .ok (.iconst 1, 1) := by decide +kernel
theorem dL_hangs_63 : decode cL_hangs 63 = .ok (.if_icmp .ne 7, 3) := by decide +kernel
theorem dL_hangs_66 : decode cL_hangs 66 = .ok (.iconst 1, 1) := by decide +kernel
theorem dL_hangs_67 : decode cL_hangs 67 = .ok (.goto 4, 3) := by decide +kernel
theorem dL_hangs_70 : decode cL_hangs 70 = .ok (.iconst 0, 1) := by decide +kernel
theorem dL_hangs_71 : decode cL_hangs 71 = .ok (.istore 7, 2) := by decide +kernel
theorem dL_hangs_73 : decode cL_hangs 73 = .ok (.iload 4, 2) := by decide +kernel
theorem dL_hangs_75 : decode cL_hangs 75 = .ok (.iload_n 3, 1) := by decide +kernel
theorem dL_hangs_76 : decode cL_hangs 76 = .ok (.iload 6, 2) := by decide +kernel
theorem dL_hangs_78 : decode cL_hangs 78 = .ok (.ishr, 1) := by decide +kernel
theorem dL_hangs_79 : decode cL_hangs 79 = .ok (.iconst 1, 1) := by decide +kernel
theorem dL_hangs_80 : decode cL_hangs 80 = .ok (.iand, 1) := by decide +kernel
theorem dL_hangs_81 : decode cL_hangs 81 = .ok (.iconst 1, 1) := by decide +kernel
theorem dL_hangs_82 : decode cL_hangs 82 = .ok (.if_icmp .ne 12, 3) := by decide +kernel
theorem dL_hangs_85 : decode cL_hangs 85 = .ok (.aload_n 0, 1) := by decide +kernel
theorem dL_hangs_86 : decode cL_hangs 86 = .ok (.iload 6, 2) := by decide +kernel
theorem dL_hangs_88 : decode cL_hangs 88 = .ok (.invokestatic 146, 3) := by decide +kernel
theorem dL_hangs_91 : decode cL_hangs 91 = .ok (.goto 4, 3) := by decide +kernel
theorem dL_hangs_94 : decode cL_hangs 94 = .ok (.iconst 0, 1) := by decide +kernel
theorem dL_hangs_95 : decode cL_hangs 95 = .ok (.iadd, 1) := by decide +kernel
theorem dL_hangs_96 : decode cL_hangs 96 = .ok (.istore 4, 2) := by decide +kernel
theorem dL_hangs_98 : decode cL_hangs 98 = .ok (.iload 7, 2) := by decide +kernel
theorem dL_hangs_100 : decode cL_hangs 100 = .ok (.aload_n 0, 1) := by decide +kernel
theorem dL_hangs_101 : decode cL_hangs 101 = .ok (.iload 6, 2) := by decide +kernel
theorem dL_hangs_103 : decode cL_hangs 103 = .ok (.invokestatic 150, 3) := by decide +kernel
theorem dL_hangs_106 : decode cL_hangs 106 = .ok (.ifCond .ne 7, 3) := by decide +kernel
theorem dL_hangs_109 : decode cL_hangs 109 = .ok (.iconst 1, 1) := by decide +kernel
theorem dL_hangs_110 : decode cL_hangs 110 = .ok (.goto 4, 3) := by decide +kernel
theorem dL_hangs_113 : decode cL_hangs 113 = .ok (.iconst 0, 1) := by decide +kernel
theorem dL_hangs_114 : decode cL_hangs 114 = .ok (.if_icmp .ne 84, 3) := by decide +kernel
theorem dL_hangs_117 : decode cL_hangs 117 = .ok (.iload_n 3, 1) := by decide +kernel
theorem dL_hangs_118 : decode cL_hangs 118 = .ok (.iload 6, 2) := by decide +kernel
theorem dL_hangs_120 : decode cL_hangs 120 = .ok (.ishr, 1) := by decide +kernel
theorem dL_hangs_121 : decode cL_hangs 121 = .ok (.iconst 1, 1) := by decide +kernel
theorem dL_hangs_122 : decode cL_hangs 122 = .ok (.iand, 1) := by decide +kernel
theorem dL_hangs_123 : decode cL_hangs 123 = .ok (.iload 7, 2) := by decide +kernel
theorem dL_hangs_125 : decode cL_hangs 125 = .ok (.ifCond .eq 18, 3) := by decide +kernel
theorem dL_hangs_128 : decode cL_hangs 128 = .ok (.iconst 1, 1) := by decide +kernel
theorem dL_hangs_129 : decode cL_hangs 129 = .ok (.aload_n 0, 1) := by decide +kernel
theorem dL_hangs_130 : decode cL_hangs 130 = .ok (.iload 6, 2) := by decide +kernel
theorem dL_hangs_132 : decode cL_hangs 132 = .ok (.aload_n 0, 1) := by decide +kernel
theorem dL_hangs_133 : decode cL_hangs 133 = .ok (.invokevirtual 131, 3) := by decide +kernel
theorem dL_hangs_136 : decode cL_hangs 136 = .ok (.invokestatic 165, 3) := by decide +kernel
theorem dL_hangs_139 : decode cL_hangs 139 = .ok (.isub, 1) := by decide +kernel
theorem dL_hangs_140 : decode cL_hangs 140 = .ok (.goto 4, 3) := by decide +kernel
theorem dL_hangs_143 : decode cL_hangs 143 = .ok (.iconst 0, 1) := by decide +kernel
theorem dL_hangs_144 : decode cL_hangs 144 = .ok (.if_icmp .ne 54, 3) := by decide +kernel
theorem dL_hangs_147 : decode cL_hangs 147 = .ok (.aload_n 0, 1) := by decide +kernel
theorem dL_hangs_148 : decode cL_hangs 148 = .ok (.iload 6, 2) := by decide +kernel
theorem dL_hangs_150 : decode cL_hangs 150 = .ok (.invokestatic 140, 3) := by decide +kernel
theorem dL_hangs_153 : decode cL_hangs 153 = .ok (.aload_n 0, 1) := by decide +kernel
theorem dL_hangs_154 : decode cL_hangs 154 = .ok (.iload 6, 2) := by decide +kernel
theorem dL_hangs_156 : decode cL_hangs 156 = .ok (.invokestatic 143, 3) := by decide +kernel
theorem dL_hangs_159 : decode cL_hangs 159 = .ok (.iand, 1) := by decide +kernel
theorem dL_hangs_160 : decode cL_hangs 160 = .ok (.ifCond .ne 38, 3) := by decide +kernel
theorem dL_hangs_163 : decode cL_hangs 163 = .ok (.aload_n 0, 1) := by decide +kernel
theorem dL_hangs_164 : decode cL_hangs 164 = .ok (.iload 6, 2) := by decide +kernel
theorem dL_hangs_166 : decode cL_hangs 166 = .ok (.invokestatic 140, 3) := by decide +kernel
theorem dL_hangs_169 : decode cL_hangs 169 = .ok (.aload_n 0, 1) := by decide +kernel
theorem dL_hangs_170 : decode cL_hangs 170 = .ok (.iload 6, 2) := by decide +kernel
theorem dL_hangs_172 : decode cL_hangs 172 = .ok (.invokestatic 143, 3) := by decide +kernel
theorem dL_hangs_175 : decode cL_hangs 175 = .ok (.ior, 1) := by decide +kernel
theorem dL_hangs_176 : decode cL_hangs 176 = .ok (.ifCond .le 22, 3) := by decide +kernel
theorem dL_hangs_179 : decode cL_hangs 179 = .ok (.aload_n 0, 1) := by decide +kernel
theorem dL_hangs_180 : decode cL_hangs 180 = .ok (.iload 6, 2) := by decide +kernel
theorem dL_hangs_182 : decode cL_hangs 182 = .ok (.invokestatic 168, 3) := by decide +kernel
theorem dL_hangs_185 : decode cL_hangs 185 = .ok (.aload_n 0, 1) := by decide +kernel
theorem dL_hangs_186 : decode cL_hangs 186 = .ok (.iload 6, 2) := by decide +kernel
theorem dL_hangs_188 : decode cL_hangs 188 = .ok (.invokestatic 170, 3) := by decide +kernel
theorem dL_hangs_191 : decode cL_hangs 191 = .ok (.if_icmp .ne 7, 3) := by decide +kernel
theorem dL_hangs_194 : decode cL_hangs 194 = .ok (.iconst 1, 1) := by decide +kernel
theorem dL_hangs_195 : decode cL_hangs 195 = .ok (.goto 4, 3) := by decide +kernel
theorem dL_hangs_198 : decode cL_hangs 198 = .ok (.iconst 0, 1) := by decide +kernel
theorem dL_hangs_199 : decode cL_hangs 199 = .ok (.istore 5, 2) := by decide +kernel
theorem dL_hangs_201 : decode cL_hangs 201 = .ok (.iinc 6 1, 3) := by decide +kernel
theorem dL_hangs_204 : decode cL_hangs 204 = .ok (.goto (-162), 3) := by decide +kernel
theorem dL_hangs_207 : decode cL_hangs 207 = .ok (.iload 5, 2) := by decide +kernel
theorem dL_hangs_209 : decode cL_hangs 209 = .ok (.ifCond .eq 70, 3) := by decide +kernel
theorem dL_hangs_212 : decode cL_hangs 212 = .ok (.aload_n 0, 1) := by decide +kernel
theorem dL_hangs_213 : decode cL_hangs 213 = .ok (.invokevirtual 173, 3) := by decide +kernel
theorem dL_hangs_216 : decode cL_hangs 216 = .ok (.iload 4, 2) := by decide +kernel
theorem dL_hangs_218 : decode cL_hangs 218 = .ok (.if_icmp .ne 61, 3) := by decide +kernel
theorem dL_hangs_221 : decode cL_hangs 221 = .ok (.aload_n 0, 1) := by decide +kernel
theorem dL_hangs_222 : decode cL_hangs 222 = .ok (.iconst 1, 1) := by decide +kernel
theorem dL_hangs_223 : decode cL_hangs 223 = .ok (.invokestatic 176, 3) := by decide +kernel
theorem dL_hangs_226 : decode cL_hangs 226 = .ok (.iload 4, 2) := by decide +kernel
theorem dL_hangs_228 : decode cL_hangs 228 = .ok (.if_icmp .ne 51, 3) := by decide +kernel
theorem dL_hangs_231 : decode cL_hangs 231 = .ok (.aload_n 0, 1) := by decide +kernel
theorem dL_hangs_232 : decode cL_hangs 232 = .ok (.invokevirtual 179, 3) := by decide +kernel
theorem dL_hangs_235 : decode cL_hangs 235 = .ok (.aload_n 0, 1) := by decide +kernel
theorem dL_hangs_236 : decode cL_hangs 236 = .ok (.invokevirtual 182, 3) := by decide +kernel
theorem dL_hangs_239 : decode cL_hangs 239 = .ok (.if_icmp .ne 40, 3) := by decide +kernel
theorem dL_hangs_242 : decode cL_hangs 242 = .ok (.aload_n 0, 1) := by decide +kernel
theorem dL_hangs_243 : decode cL_hangs 243 = .ok (.invokevirtual 185, 3) := by decide +kernel
theorem dL_hangs_246 : decode cL_hangs 246 = .ok (.aload_n 0, 1) := by decide +kernel
theorem dL_hangs_247 : decode cL_hangs 247 = .ok (.invokevirtual 188, 3) := by decide +kernel
theorem dL_hangs_250 : decode cL_hangs 250 = .ok (.if_icmp .ne 29, 3) := by decide +kernel
theorem dL_hangs_253 : decode cL_hangs 253 = .ok (.aload_n 0, 1) := by decide +kernel
theorem dL_hangs_254 : decode cL_hangs 254 = .ok (.invokevirtual 191, 3) := by decide +kernel
theorem dL_hangs_257 : decode cL_hangs 257 = .ok (.aload_n 0, 1) := by decide +kernel
theorem dL_hangs_258 : decode cL_hangs 258 = .ok (.invokevirtual 194, 3) := by decide +kernel
theorem dL_hangs_261 : decode cL_hangs 261 = .ok (.if_icmp .ne 18, 3) := by decide +kernel
theorem dL_hangs_264 : decode cL_hangs 264 = .ok (.aload_n 0, 1) := by decide +kernel
theorem dL_hangs_265 : decode cL_hangs 265 = .ok (.invokevirtual 197, 3) := by decide +kernel
theorem dL_hangs_268 : decode cL_hangs 268 = .ok (.aload_n 0, 1) := by decide +kernel
theorem dL_hangs_269 : decode cL_hangs 269 = .ok (.invokevirtual 200, 3) := by decide +kernel
theorem dL_hangs_272 : decode cL_hangs 272 = .ok (.if_icmp .ne 7, 3) := by decide +kernel
theorem dL_hangs_275 : decode cL_hangs 275 = .ok (.iconst 1, 1) := by decide +kernel
theorem dL_hangs_276 : decode cL_hangs 276 = .ok (.goto 4, 3) := by decide +kernel
theorem dL_hangs_279 : decode cL_hangs 279 = .ok (.iconst 0, 1) := by decide +kernel
theorem dL_hangs_280 : decode cL_hangs 280 = .ok (.istore 5, 2) := by decide +kernel
