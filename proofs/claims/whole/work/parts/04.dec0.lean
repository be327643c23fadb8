theorem dX0_init_0 : decode cX0_init 0 = .ok (.aload_n 0, 1) := by decide +kernel
theorem dX0_init_1 : decode cX0_init 1 = .ok (.invokespecial 5, 3) := by decide +kernel
theorem dX0_init_4 : decode cX0_init 4 = .ok (.aload_n 0, 1) := by decide +kernel
theorem dX0_init_5 : decode cX0_init 5 = .ok (.bipush 81, 2) := by decide +kernel
theorem dX0_init_7 : decode cX0_init 7 = .ok (.newarray .int, 2) := by decide +kernel
theorem dX0_init_9 : decode cX0_init 9 = .ok (.putfield 11, 3) := by decide +kernel
theorem dX0_init_12 : decode cX0_init 12 = .ok (.aload_n 0, 1) := by decide +kernel
theorem dX0_init_13 : decode cX0_init 13 = .ok (.new 15, 3) := by decide +kernel
theorem dX0_init_16 : decode cX0_init 16 = .ok (.dup, 1) := by decide +kernel
theorem dX0_init_17 : decode cX0_init 17 = .ok (.invokespecial 17, 3) := by decide +kernel
theorem dX0_init_20 : decode cX0_init 20 = .ok (.putfield 18, 3) := by decide +kernel
theorem dX0_init_23 : decode cX0_init 23 = .ok (.aload_n 0, 1) := by decide +kernel
theorem dX0_init_24 : decode cX0_init 24 = .ok (.aload_n 1, 1) := by decide +kernel
theorem dX0_init_25 : decode cX0_init 25 = .ok (.putfield 22, 3) := by decide +kernel
theorem dX0_init_28 : decode cX0_init 28 = .ok (.aload_n 0, 1) := by decide +kernel
theorem dX0_init_29 : decode cX0_init 29 = .ok (.invokevirtual 26, 3) := by decide +kernel
theorem dX0_init_32 : decode cX0_init 32 = .ok (.return_, 1) := by decide +kernel
theorem dX0_setUp_0 : decode cX0_setUp 0 = .ok (.aload_n 0, 1) := by decide +kernel
theorem dX0_setUp_1 : decode cX0_setUp 1 = .ok (.aload_n 1, 1) := by decide +kernel
theorem dX0_setUp_2 : decode cX0_setUp 2 = .ok (.putfield 22, 3) := by decide +kernel
theorem dX0_setUp_5 : decode cX0_setUp 5 = .ok (.aload_n 0, 1) := by decide +kernel
theorem dX0_setUp_6 : decode cX0_setUp 6 = .ok (.invokevirtual 26, 3) := by decide +kernel
theorem dX0_setUp_9 : decode cX0_setUp 9 = .ok (.aload_n 0, 1) := by decide +kernel
theorem dX0_setUp_10 : decode cX0_setUp 10 = .ok (.getfield 11, 3) := by decide +kernel
theorem dX0_setUp_13 : decode cX0_setUp 13 = .ok (.iconst 0, 1) := by decide +kernel
theorem dX0_setUp_14 : decode cX0_setUp 14 = .ok (.aload_n 2, 1) := by decide +kernel
theorem dX0_setUp_15 : decode cX0_setUp 15 = .ok (.invokevirtual 29, 3) := by decide +kernel
theorem dX0_setUp_18 : decode cX0_setUp 18 = .ok (.iastore, 1) := by decide +kernel
theorem dX0_setUp_19 : decode cX0_setUp 19 = .ok (.iconst 0, 1) := by decide +kernel
theorem dX0_setUp_20 : decode cX0_setUp 20 = .ok (.istore_n 3, 1) := by decide +kernel
theorem dX0_setUp_21 : decode cX0_setUp 21 = .ok (.iload_n 3, 1) := by decide +kernel
theorem dX0_setUp_22 : decode cX0_setUp 22 = .ok (.aload_n 2, 1) := by decide +kernel
theorem dX0_setUp_23 : decode cX0_setUp 23 = .ok (.invokevirtual 35, 3) := by decide +kernel
theorem dX0_setUp_26 : decode cX0_setUp 26 = .ok (.if_icmp .ge 38, 3) := by decide +kernel
theorem dX0_setUp_29 : decode cX0_setUp 29 = .ok (.aload_n 0, 1) := by decide +kernel
theorem dX0_setUp_30 : decode cX0_setUp 30 = .ok (.aload_n 2, 1) := by decide +kernel
theorem dX0_setUp_31 : decode cX0_setUp 31 = .ok (.iload_n 3, 1) := by decide +kernel
theorem dX0_setUp_32 : decode cX0_setUp 32 = .ok (.iconst 0, 1) := by decide +kernel
theorem dX0_setUp_33 : decode cX0_setUp 33 = .ok (.invokevirtual 38, 3) := by decide +kernel
theorem dX0_setUp_36 : decode cX0_setUp 36 = .ok (.aload_n 2, 1) := by decide +kernel
theorem dX0_setUp_37 : decode cX0_setUp 37 = .ok (.iload_n 3, 1) := by decide +kernel
theorem dX0_setUp_38 : decode cX0_setUp 38 = .ok (.iconst 1, 1) := by decide +kernel
theorem dX0_setUp_39 : decode cX0_setUp 39 = .ok (.invokevirtual 38, 3) := by decide +kernel
theorem dX0_setUp_42 : decode cX0_setUp 42 = .ok (.aload_n 2, 1) := by decide +kernel
theorem dX0_setUp_43 : decode cX0_setUp 43 = .ok (.iload_n 3, 1) := by decide +kernel
theorem dX0_setUp_44 : decode cX0_setUp 44 = .ok (.iconst 2, 1) := by decide +kernel
theorem dX0_setUp_45 : decode cX0_setUp 45 = .ok (.invokevirtual 38, 3) := by decide +kernel
theorem dX0_setUp_48 : decode cX0_setUp 48 = .ok (.aload_n 2, 1) := by decide +kernel
theorem dX0_setUp_49 : decode cX0_setUp 49 = .ok (.iload_n 3, 1) := by decide +kernel
theorem dX0_setUp_50 : decode cX0_setUp 50 = .ok (.iconst 3, 1) := by decide +kernel
theorem dX0_setUp_51 : decode cX0_setUp 51 = .ok (.invokevirtual 38, 3) := by decide +kernel
theorem dX0_setUp_54 : decode cX0_setUp 54 = .ok (.invokevirtual 42, 3) := by decide +kernel
theorem dX0_setUp_57 : decode cX0_setUp 57 = .ok (.pop, 1) := by decide +kernel
theorem dX0_setUp_58 : decode cX0_setUp 58 = .ok (.iinc 3 1, 3) := by decide +kernel
theorem dX0_setUp_61 : decode cX0_setUp 61 = .ok (.goto (-40), 3) := by decide +kernel
theorem dX0_setUp_64 : decode cX0_setUp 64 = .ok (.return_, 1) := by decide +kernel
theorem dX0_clear_0 : decode cX0_clear 0 = .ok (.aload_n 0, 1) := by decide +kernel
theorem dX0_clear_1 : decode cX0_clear 1 = .ok (.getfield 11, 3) := by decide +kernel
theorem dX0_clear_4 : decode cX0_clear 4 = .ok (.iconst 0, 1) := by decide +kernel
theorem dX0_clear_5 : decode cX0_clear 5 = .ok (.invokestatic 46, 3) := by decide +kernel
theorem dX0_clear_8 : decode cX0_clear 8 = .ok (.iconst 0, 1) := by decide +kernel
theorem dX0_clear_9 : decode cX0_clear 9 = .ok (.istore_n 1, 1) := by decide +kernel
theorem dX0_clear_10 : decode cX0_clear 10 = .ok (.iload_n 1, 1) := by decide +kernel
theorem dX0_clear_11 : decode cX0_clear 11 = .ok (.bipush 8, 2) := by decide +kernel
theorem dX0_clear_13 : decode cX0_clear 13 = .ok (.if_icmp .ge 18, 3) := by decide +kernel
theorem dX0_clear_16 : decode cX0_clear 16 = .ok (.aload_n 0, 1) := by decide +kernel
theorem dX0_clear_17 : decode cX0_clear 17 = .ok (.getfield 11, 3) := by decide +kernel
theorem dX0_clear_20 : decode cX0_clear 20 = .ok (.iconst 3, 1) := by decide +kernel
theorem dX0_clear_21 : decode cX0_clear 21 = .ok (.iload_n 1, 1) := by decide +kernel
theorem dX0_clear_22 : decode cX0_clear 22 = .ok (.iadd, 1) := by decide +kernel
theorem dX0_clear_23 : decode cX0_clear 23 = .ok (.iconst (-1), 1) := by decide +kernel
theorem dX0_clear_24 : decode cX0_clear 24 = .ok (.iastore, 1) := by decide +kernel
theorem dX0_clear_25 : decode cX0_clear 25 = .ok (.iinc 1 1, 3) := by decide +kernel
theorem dX0_clear_28 : decode cX0_clear 28 = .ok (.goto (-18), 3) := by decide +kernel
theorem dX0_clear_31 : decode cX0_clear 31 = .ok (.return_, 1) := by decide +kernel
theorem dX0_become_0 : decode cX0_become 0 = .ok (.aload_n 0, 1) := by decide +kernel
theorem dX0_become_1 : decode cX0_become 1 = .ok (.aload_n 1, 1) := by decide +kernel
theorem dX0_become_2 : decode cX0_become 2 = .ok (.getfield 22, 3) := by decide +kernel
theorem dX0_become_5 : decode cX0_become 5 = .ok (.putfield 22, 3) := by decide +kernel
theorem dX0_become_8 : decode cX0_become 8 = .ok (.aload_n 1, 1) := by decide +kernel
theorem dX0_become_9 : decode cX0_become 9 = .ok (.getfield 11, 3) := by decide +kernel
theorem dX0_become_12 : decode cX0_become 12 = .ok (.iconst 0, 1) := by decide +kernel
theorem dX0_become_13 : decode cX0_become 13 = .ok (.aload_n 0, 1) := by decide +kernel
theorem dX0_become_14 : decode cX0_become 14 = .ok (.getfield 11, 3) := by decide +kernel
theorem dX0_become_17 : decode cX0_become 17 = .ok (.iconst 0, 1) := by decide +kernel
theorem dX0_become_18 : decode cX0_become 18 = .ok (.bipush 81, 2) := by decide +kernel
theorem dX0_become_20 : decode cX0_become 20 = .ok (.invokestatic 52, 3) := by decide +kernel
theorem dX0_become_23 : decode cX0_become 23 = .ok (.return_, 1) := by decide +kernel
theorem dX0_saveTo_0 : decode cX0_saveTo 0 = .ok (.iload_n 2, 1) := by decide +kernel
theorem dX0_saveTo_1 : decode cX0_saveTo 1 = .ok (.ifCond .lt 24, 3) := by decide +kernel
theorem dX0_saveTo_4 : decode cX0_saveTo 4 = .ok (.iload_n 2, 1) := by decide +kernel
theorem dX0_saveTo_5 : decode cX0_saveTo 5 = .ok (.aload_n 1, 1) := by decide +kernel
theorem dX0_saveTo_6 : decode cX0_saveTo 6 = .ok (.arraylength, 1) := by decide +kernel
theorem dX0_saveTo_7 : decode cX0_saveTo 7 = .ok (.bipush 81, 2) := by decide +kernel
theorem dX0_saveTo_9 : decode cX0_saveTo 9 = .ok (.isub, 1) := by decide +kernel
theorem dX0_saveTo_10 : decode cX0_saveTo 10 = .ok (.if_icmp .gt 15, 3) := by decide +kernel
theorem dX0_saveTo_13 : decode cX0_saveTo 13 = .ok (.aload_n 0, 1) := by decide +kernel
theorem dX0_saveTo_14 : decode cX0_saveTo 14 = .ok (.getfield 11, 3) := by decide +kernel
theorem dX0_saveTo_17 : decode cX0_saveTo 17 = .ok (.iconst 0, 1) := by decide +kernel
theorem dX0_saveTo_18 : decode cX0_saveTo 18 = .ok (.aload_n 1, 1) := by decide +kernel
theorem dX0_saveTo_19 : decode cX0_saveTo 19 = .ok (.iload_n 2, 1) := by decide +kernel
theorem dX0_saveTo_20 : decode cX0_saveTo 20 = .ok (.bipush 81, 2) := by decide +kernel
theorem dX0_saveTo_22 : decode cX0_saveTo 22 = .ok (.invokestatic 52, 3) := by decide +kernel
theorem dX0_saveTo_25 : decode cX0_saveTo 25 = .ok (.return_, 1) := by decide +kernel
theorem dX0_takeFrom_0 : decode cX0_takeFrom 0 = .ok (.iload_n 2, 1) := by decide +kernel
theorem dX0_takeFrom_1 : decode cX0_takeFrom 1 = .ok (.ifCond .lt 24, 3) := by decide +kernel
theorem dX0_takeFrom_4 : decode cX0_takeFrom 4 = .ok (.iload_n 2, 1) := by decide +kernel
theorem dX0_takeFrom_5 : decode cX0_takeFrom 5 = .ok (.aload_n 1, 1) := by decide +kernel
theorem dX0_takeFrom_6 : decode cX0_takeFrom 6 = .ok (.arraylength, 1) := by decide +kernel
theorem dX0_takeFrom_7 : decode cX0_takeFrom 7 = .ok (.bipush 81, 2) := by decide +kernel
theorem dX0_takeFrom_9 : decode cX0_takeFrom 9 = .ok (.isub, 1) := by decide +kernel
theorem dX0_takeFrom_10 : decode cX0_takeFrom 10 = .ok (.if_icmp .gt 15, 3) := by decide +kernel
theorem dX0_takeFrom_13 : decode cX0_takeFrom 13 = .ok (.aload_n 1, 1) := by decide +kernel
theorem dX0_takeFrom_14 : decode cX0_takeFrom 14 = .ok (.iload_n 2, 1) := by decide +kernel
theorem dX0_takeFrom_15 : decode cX0_takeFrom 15 = .ok (.aload_n 0, 1) := by decide +kernel
theorem dX0_takeFrom_16 : decode cX0_takeFrom 16 = .ok (.getfield 11, 3) := by decide +kernel
theorem dX0_takeFrom_19 : decode cX0_takeFrom 19 = .ok (.iconst 0, 1) := by decide +kernel
theorem dX0_takeFrom_20 : decode cX0_takeFrom 20 = .ok (.bipush 81, 2) := by decide +kernel
theorem dX0_takeFrom_22 : decode cX0_takeFrom 22 = .ok (.invokestatic 52, 3) := by decide +kernel
theorem dX0_takeFrom_25 : decode cX0_takeFrom 25 = .ok (.return_, 1) := by decide +kernel
theorem dX0_minute_0 : decode cX0_minute 0 = .ok (.aload_n 0, 1) := by decide +kernel
theorem dX0_minute_1 : decode cX0_minute 1 = .ok (.getfield 11, 3) := by decide +kernel
theorem dX0_minute_4 : decode cX0_minute 4 = .ok (.iconst 0, 1) := by decide +kernel
theorem dX0_minute_5 : decode cX0_minute 5 = .ok (.iaload, 1) := by decide +kernel
theorem dX0_minute_6 : decode cX0_minute 6 = .ok (.ireturn, 1) := by decide +kernel
theorem dX0_calls_0 : decode cX0_calls 0 = .ok (.aload_n 0, 1) := by decide +kernel
theorem dX0_calls_1 : decode cX0_calls 1 = .ok (.getfield 11, 3) := by decide +kernel
theorem dX0_calls_4 : decode cX0_calls 4 = .ok (.iconst 1, 1) := by decide +kernel
theorem dX0_calls_5 : decode cX0_calls 5 = .ok (.iaload, 1) := by decide +kernel
theorem dX0_calls_6 : decode cX0_calls 6 = .ok (.ireturn, 1) := by decide +kernel
theorem dX0_isLine_0 : decode cX0_isLine 0 = .ok (.iload_n 1, 1) := by decide +kernel
theorem dX0_isLine_1 : decode cX0_isLine 1 = .ok (.ifCond .lt 24, 3) := by decide +kernel
theorem dX0_isLine_4 : decode cX0_isLine 4 = .ok (.iload_n 1, 1) := by decide +kernel
theorem dX0_isLine_5 : decode cX0_isLine 5 = .ok (.aload_n 0, 1) := by decide +kernel
theorem dX0_isLine_6 : decode cX0_isLine 6 = .ok (.getfield 22, 3) := by decide +kernel
theorem dX0_isLine_9 : decode cX0_isLine 9 = .ok (.getfield 58, 3) := by decide +kernel
theorem dX0_isLine_12 : decode cX0_isLine 12 = .ok (.if_icmp .ge 13, 3) := by decide +kernel
theorem dX0_isLine_15 : decode cX0_isLine 15 = .ok (.iload_n 1, 1) := by decide +kernel
theorem dX0_isLine_16 : decode cX0_isLine 16 = .ok (.bipush 8, 2) := by decide +kernel
theorem dX0_isLine_18 : decode cX0_isLine 18 = .ok (.if_icmp .ge 7, 3) := by decide +kernel
theorem dX0_isLine_21 : decode cX0_isLine 21 = .ok (.iconst 1, 1) := by decide +kernel
theorem dX0_isLine_22 : decode cX0_isLine 22 = .ok (.goto 4, 3) := by decide +kernel
theorem dX0_isLine_25 : decode cX0_isLine 25 = .ok (.iconst 0, 1) := by decide +kernel
theorem dX0_isLine_26 : decode cX0_isLine 26 = .ok (.ireturn, 1) := by decide +kernel
theorem dX0_fact_0 : decode cX0_fact 0 = .ok (.iload_n 1, 1) := by decide +kernel
theorem dX0_fact_1 : decode cX0_fact 1 = .ok (.ifCond .lt 33, 3) := by decide +kernel
theorem dX0_fact_4 : decode cX0_fact 4 = .ok (.iload_n 1, 1) := by decide +kernel
theorem dX0_fact_5 : decode cX0_fact 5 = .ok (.aload_n 0, 1) := by decide +kernel
theorem dX0_fact_6 : decode cX0_fact 6 = .ok (.getfield 11, 3) := by decide +kernel
theorem dX0_fact_9 : decode cX0_fact 9 = .ok (.iconst 1, 1) := by decide +kernel
theorem dX0_fact_10 : decode cX0_fact 10 = .ok (.iaload, 1) := by decide +kernel
theorem dX0_fact_11 : decode cX0_fact 11 = .ok (.if_icmp .ge 23, 3) := by decide +kernel
theorem dX0_fact_14 : decode cX0_fact 14 = .ok (.iload_n 1, 1) := by decide +kernel
theorem dX0_fact_15 : decode cX0_fact 15 = .ok (.bipush 10, 2) := by decide +kernel
theorem dX0_fact_17 : decode cX0_fact 17 = .ok (.if_icmp .ge 17, 3) := by decide +kernel
theorem dX0_fact_20 : decode cX0_fact 20 = .ok (.iload_n 2, 1) := by decide +kernel
theorem dX0_fact_21 : decode cX0_fact 21 = .ok (.ifCond .lt 13, 3) := by decide +kernel
theorem dX0_fact_24 : decode cX0_fact 24 = .ok (.iload_n 2, 1) := by decide +kernel
theorem dX0_fact_25 : decode cX0_fact 25 = .ok (.bipush 7, 2) := by decide +kernel
theorem dX0_fact_27 : decode cX0_fact 27 = .ok (.if_icmp .ge 7, 3) := by decide +kernel
theorem dX0_fact_30 : decode cX0_fact 30 = .ok (.iconst 1, 1) := by decide +kernel
theorem dX0_fact_31 : decode cX0_fact 31 = .ok (.goto 4, 3) := by decide +kernel
theorem dX0_fact_34 : decode cX0_fact 34 = .ok (.iconst 0, 1) := by decide +kernel
theorem dX0_fact_35 : decode cX0_fact 35 = .ok (.istore_n 3, 1) := by decide +kernel
theorem dX0_fact_36 : decode cX0_fact 36 = .ok (.iload_n 3, 1) := by decide +kernel
theorem dX0_fact_37 : decode cX0_fact 37 = .ok (.ifCond .eq 20, 3) := by decide +kernel
theorem dX0_fact_40 : decode cX0_fact 40 = .ok (.aload_n 0, 1) := by decide +kernel
theorem dX0_fact_41 : decode cX0_fact 41 = .ok (.getfield 11, 3) := by decide +kernel
theorem dX0_fact_44 : decode cX0_fact 44 = .ok (.bipush 11, 2) := by decide +kernel
theorem dX0_fact_46 : decode cX0_fact 46 = .ok (.iload_n 1, 1) := by decide +kernel
theorem dX0_fact_47 : decode cX0_fact 47 = .ok (.bipush 7, 2) := by decide +kernel
theorem dX0_fact_49 : decode cX0_fact 49 = .ok (.imul, 1) := by decide +kernel
theorem dX0_fact_50 : decode cX0_fact 50 = .ok (.iadd, 1) := by decide +kernel
theorem dX0_fact_51 : decode cX0_fact 51 = .ok (.iload_n 2, 1) := by decide +kernel
theorem dX0_fact_52 : decode cX0_fact 52 = .ok (.iadd, 1) := by decide +kernel
theorem dX0_fact_53 : decode cX0_fact 53 = .ok (.iaload, 1) := by decide +kernel
theorem dX0_fact_54 : decode cX0_fact 54 = .ok (.goto 4, 3) := by decide +kernel
theorem dX0_fact_57 : decode cX0_fact 57 = .ok (.iconst (-1), 1) := by decide +kernel
theorem dX0_fact_58 : decode cX0_fact 58 = .ok (.ireturn, 1) := by decide +kernel
theorem dX0_setFact_0 : decode cX0_setFact 0 = .ok (.iload_n 1, 1) := by decide +kernel
theorem dX0_setFact_1 : decode cX0_setFact 1 = .ok (.ifCond .lt 44, 3) := by decide +kernel
theorem dX0_setFact_4 : decode cX0_setFact 4 = .ok (.iload_n 1, 1) := by decide +kernel
theorem dX0_setFact_5 : decode cX0_setFact 5 = .ok (.aload_n 0, 1) := by decide +kernel
theorem dX0_setFact_6 : decode cX0_setFact 6 = .ok (.getfield 11, 3) := by decide +kernel
theorem dX0_setFact_9 : decode cX0_setFact 9 = .ok (.iconst 1, 1) := by decide +kernel
theorem dX0_setFact_10 : decode cX0_setFact 10 = .ok (.iaload, 1) := by decide +kernel
theorem dX0_setFact_11 : decode cX0_setFact 11 = .ok (.if_icmp .ge 34, 3) := by decide +kernel
theorem dX0_setFact_14 : decode cX0_setFact 14 = .ok (.iload_n 1, 1) := by decide +kernel
theorem dX0_setFact_15 : decode cX0_setFact 15 = .ok (.bipush 10, 2) := by decide +kernel
theorem dX0_setFact_17 : decode cX0_setFact 17 = .ok (.if_icmp .ge 28, 3) := by decide +kernel
theorem dX0_setFact_20 : decode cX0_setFact 20 = .ok (.iload_n 2, 1) := by decide +kernel
theorem dX0_setFact_21 : decode cX0_setFact 21 = .ok (.ifCond .lt 24, 3) := by decide +kernel
theorem dX0_setFact_24 : decode cX0_setFact 24 = .ok (.iload_n 2, 1) := by decide +kernel
theorem dX0_setFact_25 : decode cX0_setFact 25 = .ok (.bipush 7, 2) := by decide +kernel
theorem dX0_setFact_27 : decode cX0_setFact 27 = .ok (.if_icmp .ge 18, 3) := by decide +kernel
theorem dX0_setFact_30 : decode cX0_setFact 30 = .ok (.aload_n 0, 1) := by decide +kernel
theorem dX0_setFact_31 : decode cX0_setFact 31 = .ok (.getfield 11, 3) := by decide +kernel
theorem dX0_setFact_34 : decode cX0_setFact 34 = .ok (.bipush 11, 2) := by decide +kernel
theorem dX0_setFact_36 : decode cX0_setFact 36 = .ok (.iload_n 1, 1) := by decide +kernel
theorem dX0_setFact_37 : decode cX0_setFact 37 = .ok (.bipush 7, 2) := by decide +kernel
theorem dX0_setFact_39 : decode cX0_setFact 39 = .ok (.imul, 1) := by decide +kernel
theorem dX0_setFact_40 : decode cX0_setFact 40 = .ok (.iadd, 1) := by decide +kernel
theorem dX0_setFact_41 : decode cX0_setFact 41 = .ok (.iload_n 2, 1) := by decide +kernel
theorem dX0_setFact_42 : decode cX0_setFact 42 = .ok (.iadd, 1) := by decide +kernel
theorem dX0_setFact_43 : decode cX0_setFact 43 = .ok (.iload_n 3, 1) := by decide +kernel
theorem dX0_setFact_44 : decode cX0_setFact 44 = .ok (.iastore, 1) := by decide +kernel
theorem dX0_setFact_45 : decode cX0_setFact 45 = .ok (.return_, 1) := by decide +kernel
theorem dX0_isToCome_0 : decode cX0_isToCome 0 = .ok (.aload_n 0, 1) := by decide +kernel
theorem dX0_isToCome_1 : decode cX0_isToCome 1 = .ok (.iload_n 1, 1) := by decide +kernel
theorem dX0_isToCome_2 : decode cX0_isToCome 2 = .ok (.iconst 4, 1) := by decide +kernel
theorem dX0_isToCome_3 : decode cX0_isToCome 3 = .ok (.invokevirtual 64, 3) := by decide +kernel
theorem dX0_isToCome_6 : decode cX0_isToCome 6 = .ok (.ifCond .ne 7, 3) := by decide +kernel
theorem dX0_isToCome_9 : decode cX0_isToCome 9 = .ok (.iconst 1, 1) := by decide +kernel
theorem dX0_isToCome_10 : decode cX0_isToCome 10 = .ok (.goto 4, 3) := by decide +kernel
theorem dX0_isToCome_13 : decode cX0_isToCome 13 = .ok (.iconst 0, 1) := by decide +kernel
theorem dX0_isToCome_14 : decode cX0_isToCome 14 = .ok (.ireturn, 1) := by decide +kernel
theorem dX0_isOn_0 : decode cX0_isOn 0 = .ok (.aload_n 0, 1) := by decide +kernel
theorem dX0_isOn_1 : decode cX0_isOn 1 = .ok (.iload_n 1, 1) := by decide +kernel
theorem dX0_isOn_2 : decode cX0_isOn 2 = .ok (.iconst 4, 1) := by decide +kernel
theorem dX0_isOn_3 : decode cX0_isOn 3 = .ok (.invokevirtual 64, 3) := by decide +kernel
theorem dX0_isOn_6 : decode cX0_isOn 6 = .ok (.iconst 1, 1) := by decide +kernel
theorem dX0_isOn_7 : decode cX0_isOn 7 = .ok (.if_icmp .ne 7, 3) := by decide +kernel
theorem dX0_isOn_10 : decode cX0_isOn 10 = .ok (.iconst 1, 1) := by decide +kernel
theorem dX0_isOn_11 : decode cX0_isOn 11 = .ok (.goto 4, 3) := by decide +kernel
theorem dX0_isOn_14 : decode cX0_isOn 14 = .ok (.iconst 0, 1) := by decide +kernel
theorem dX0_isOn_15 : decode cX0_isOn 15 = .ok (.ireturn, 1) := by decide +kernel
theorem dX0_wasOn_0 : decode cX0_wasOn 0 = .ok (.aload_n 0, 1) := by decide +kernel
theorem dX0_wasOn_1 : decode cX0_wasOn 1 = .ok (.iload_n 1, 1) := by decide +kernel
theorem dX0_wasOn_2 : decode cX0_wasOn 2 = .ok (.iconst 5, 1) := by decide +kernel
theorem dX0_wasOn_3 : decode cX0_wasOn 3 = .ok (.invokevirtual 64, 3) := by decide +kernel
theorem dX0_wasOn_6 : decode cX0_wasOn 6 = .ok (.iconst (-1), 1) := by decide +kernel
theorem dX0_wasOn_7 : decode cX0_wasOn 7 = .ok (.if_icmp .eq 7, 3) := by decide +kernel
theorem dX0_wasOn_10 : decode cX0_wasOn 10 = .ok (.iconst 1, 1) := by decide +kernel
theorem dX0_wasOn_11 : decode cX0_wasOn 11 = .ok (.goto 4, 3) := by decide +kernel
theorem dX0_wasOn_14 : decode cX0_wasOn 14 = .ok (.iconst 0, 1) := by decide +kernel
theorem dX0_wasOn_15 : decode cX0_wasOn 15 = .ok (.ireturn, 1) := by decide +kernel
theorem dX0_endOf_0 : decode cX0_endOf 0 = .ok (.aload_n 0, 1) := by decide +kernel
theorem dX0_endOf_1 : decode cX0_endOf 1 = .ok (.iload_n 1, 1) := by decide +kernel
theorem dX0_endOf_2 : decode cX0_endOf 2 = .ok (.iconst 2, 1) := by decide +kernel
theorem dX0_endOf_3 : decode cX0_endOf 3 = .ok (.invokevirtual 64, 3) := by decide +kernel
theorem dX0_endOf_6 : decode cX0_endOf 6 = .ok (.aload_n 0, 1) := by decide +kernel
theorem dX0_endOf_7 : decode cX0_endOf 7 = .ok (.iload_n 1, 1) := by decide +kernel
theorem dX0_endOf_8 : decode cX0_endOf 8 = .ok (.iconst 3, 1) := by decide +kernel
theorem dX0_endOf_9 : decode cX0_endOf 9 = .ok (.invokevirtual 64, 3) := by decide +kernel
theorem dX0_endOf_12 : decode cX0_endOf 12 = .ok (.iadd, 1) := by decide +kernel
theorem dX0_endOf_13 : decode cX0_endOf 13 = .ok (.ireturn, 1) := by decide +kernel
theorem dX0_joined_0 : decode cX0_joined 0 = .ok (.aload_n 0, 1) := by decide +kernel
theorem dX0_joined_1 : decode cX0_joined 1 = .ok (.iload_n 1, 1) := by decide +kernel
theorem dX0_joined_2 : decode cX0_joined 2 = .ok (.iconst 0, 1) := by decide +kernel
theorem dX0_joined_3 : decode cX0_joined 3 = .ok (.invokevirtual 64, 3) := by decide +kernel
theorem dX0_joined_6 : decode cX0_joined 6 = .ok (.istore 4, 2) := by decide +kernel
theorem dX0_joined_8 : decode cX0_joined 8 = .ok (.aload_n 0, 1) := by decide +kernel
theorem dX0_joined_9 : decode cX0_joined 9 = .ok (.iload_n 1, 1) := by decide +kernel
theorem dX0_joined_10 : decode cX0_joined 10 = .ok (.iconst 5, 1) := by decide +kernel
theorem dX0_joined_11 : decode cX0_joined 11 = .ok (.invokevirtual 64, 3) := by decide +kernel
theorem dX0_joined_14 : decode cX0_joined 14 = .ok (.istore 5, 2) := by decide +kernel
theorem dX0_joined_16 : decode cX0_joined 16 = .ok (.iload 4, 2) := by decide +kernel
theorem dX0_joined_18 : decode cX0_joined 18 = .ok (.iload_n 2, 1) := by decide +kernel
theorem dX0_joined_19 : decode cX0_joined 19 = .ok (.if_icmp .ne 9, 3) := by decide +kernel
theorem dX0_joined_22 : decode cX0_joined 22 = .ok (.iload 5, 2) := by decide +kernel
theorem dX0_joined_24 : decode cX0_joined 24 = .ok (.iload_n 3, 1) := by decide +kernel
theorem dX0_joined_25 : decode cX0_joined 25 = .ok (.if_icmp .eq 15, 3) := by decide +kernel
theorem dX0_joined_28 : decode cX0_joined 28 = .ok (.iload 4, 2) := by decide +kernel
theorem dX0_joined_30 : decode cX0_joined 30 = .ok (.iload_n 3, 1) := by decide +kernel
theorem dX0_joined_31 : decode cX0_joined 31 = .ok (.if_icmp .ne 13, 3) := by decide +kernel
theorem dX0_joined_34 : decode cX0_joined 34 = .ok (.iload 5, 2) := by decide +kernel
theorem dX0_joined_36 : decode cX0_joined 36 = .ok (.iload_n 2, 1) := by decide +kernel
theorem dX0_joined_37 : decode cX0_joined 37 = .ok (.if_icmp .ne 7, 3) := by decide +kernel
theorem dX0_joined_40 : decode cX0_joined 40 = .ok (.iconst 1, 1) := by decide +kernel
theorem dX0_joined_41 : decode cX0_joined 41 = .ok (.goto 4, 3) := by decide +kernel
theorem dX0_joined_44 : decode cX0_joined 44 = .ok (.iconst 0, 1) := by decide +kernel
theorem dX0_joined_45 : decode cX0_joined 45 = .ok (.ireturn, 1) := by decide +kernel
theorem dX0_bitsOf_0 : decode cX0_bitsOf 0 = .ok (.iconst 0, 1) := by decide +kernel
theorem dX0_bitsOf_1 : decode cX0_bitsOf 1 = .ok (.istore_n 2, 1) := by decide +kernel
theorem dX0_bitsOf_2 : decode cX0_bitsOf 2 = .ok (.iconst 0, 1) := by decide +kernel
theorem dX0_bitsOf_3 : decode cX0_bitsOf 3 = .ok (.istore_n 3, 1) := by decide +kernel
theorem dX0_bitsOf_4 : decode cX0_bitsOf 4 = .ok (.iload_n 3, 1) := by decide +kernel
theorem dX0_bitsOf_5 : decode cX0_bitsOf 5 = .ok (.aload_n 0, 1) := by decide +kernel
theorem dX0_bitsOf_6 : decode cX0_bitsOf 6 = .ok (.invokevirtual 67, 3) := by decide +kernel
theorem dX0_bitsOf_9 : decode cX0_bitsOf 9 = .ok (.if_icmp .ge 25, 3) := by decide +kernel
theorem dX0_bitsOf_12 : decode cX0_bitsOf 12 = .ok (.aload_n 0, 1) := by decide +kernel
theorem dX0_bitsOf_13 : decode cX0_bitsOf 13 = .ok (.iload_n 3, 1) := by decide +kernel
theorem dX0_bitsOf_14 : decode cX0_bitsOf 14 = .ok (.iconst 4, 1) := by decide +kernel
theorem dX0_bitsOf_15 : decode cX0_bitsOf 15 = .ok (.invokevirtual 64, 3) := by decide +kernel
theorem dX0_bitsOf_18 : decode cX0_bitsOf 18 = .ok (.iload_n 1, 1) := by decide +kernel
theorem dX0_bitsOf_19 : decode cX0_bitsOf 19 = .ok (.if_icmp .ne 9, 3) := by decide +kernel
theorem dX0_bitsOf_22 : decode cX0_bitsOf 22 = .ok (.iload_n 2, 1) := by decide +kernel
theorem dX0_bitsOf_23 : decode cX0_bitsOf 23 = .ok (.iconst 1, 1) := by decide +kernel
theorem dX0_bitsOf_24 : decode cX0_bitsOf 24 = .ok (.iload_n 3, 1) := by decide +kernel
theorem dX0_bitsOf_25 : decode cX0_bitsOf 25 = .ok (.ishl, 1) := by decide +kernel
theorem dX0_bitsOf_26 : decode cX0_bitsOf 26 = .ok (.ior, 1) := by decide +kernel
theorem dX0_bitsOf_27 : decode cX0_bitsOf 27 = .ok (.istore_n 2, 1) := by decide +kernel
theorem dX0_bitsOf_28 : decode cX0_bitsOf 28 = .ok (.iinc 3 1, 3) := by decide +kernel
theorem dX0_bitsOf_31 : decode cX0_bitsOf 31 = .ok (.goto (-27), 3) := by decide +kernel
theorem dX0_bitsOf_34 : decode cX0_bitsOf 34 = .ok (.iload_n 2, 1) := by decide +kernel
theorem dX0_bitsOf_35 : decode cX0_bitsOf 35 = .ok (.ireturn, 1) := by decide +kernel
theorem dX0_tally_0 : decode cX0_tally 0 = .ok (.aload_n 0, 1) := by decide +kernel
theorem dX0_tally_1 : decode cX0_tally 1 = .ok (.iload_n 1, 1) := by decide +kernel
theorem dX0_tally_2 : decode cX0_tally 2 = .ok (.invokevirtual 68, 3) := by decide +kernel
theorem dX0_tally_5 : decode cX0_tally 5 = .ok (.invokestatic 72, 3) := by decide +kernel
theorem dX0_tally_8 : decode cX0_tally 8 = .ok (.ireturn, 1) := by decide +kernel
theorem dX0_speaksWith_0 : decode cX0_speaksWith 0 = .ok (.iconst 0, 1) := by decide +kernel
theorem dX0_speaksWith_1 : decode cX0_speaksWith 1 = .ok (.istore_n 2, 1) := by decide +kernel
theorem dX0_speaksWith_2 : decode cX0_speaksWith 2 = .ok (.iload_n 2, 1) := by decide +kernel
theorem dX0_speaksWith_3 : decode cX0_speaksWith 3 = .ok (.aload_n 0, 1) := by decide +kernel
theorem dX0_speaksWith_4 : decode cX0_speaksWith 4 = .ok (.invokevirtual 67, 3) := by decide +kernel
theorem dX0_speaksWith_7 : decode cX0_speaksWith 7 = .ok (.if_icmp .ge 59, 3) := by decide +kernel
theorem dX0_speaksWith_10 : decode cX0_speaksWith 10 = .ok (.aload_n 0, 1) := by decide +kernel
theorem dX0_speaksWith_11 : decode cX0_speaksWith 11 = .ok (.iload_n 2, 1) := by decide +kernel
theorem dX0_speaksWith_12 : decode cX0_speaksWith 12 = .ok (.invokevirtual 77, 3) := by decide +kernel
theorem dX0_speaksWith_15 : decode cX0_speaksWith 15 = .ok (.ifCond .eq 20, 3) := by decide +kernel
theorem dX0_speaksWith_18 : decode cX0_speaksWith 18 = .ok (.aload_n 0, 1) := by decide +kernel
theorem dX0_speaksWith_19 : decode cX0_speaksWith 19 = .ok (.iload_n 2, 1) := by decide +kernel
theorem dX0_speaksWith_20 : decode cX0_speaksWith 20 = .ok (.iconst 0, 1) := by decide +kernel
theorem dX0_speaksWith_21 : decode cX0_speaksWith 21 = .ok (.invokevirtual 64, 3) := by decide +kernel
theorem dX0_speaksWith_24 : decode cX0_speaksWith 24 = .ok (.iload_n 1, 1) := by decide +kernel
theorem dX0_speaksWith_25 : decode cX0_speaksWith 25 = .ok (.if_icmp .ne 10, 3) := by decide +kernel
theorem dX0_speaksWith_28 : decode cX0_speaksWith 28 = .ok (.aload_n 0, 1) := by decide +kernel
theorem dX0_speaksWith_29 : decode cX0_speaksWith 29 = .ok (.iload_n 2, 1) := by decide +kernel
theorem dX0_speaksWith_30 : decode cX0_speaksWith 30 = .ok (.iconst 5, 1) := by decide +kernel
theorem dX0_speaksWith_31 : decode cX0_speaksWith 31 = .ok (.invokevirtual 64, 3) := by decide +kernel
theorem dX0_speaksWith_34 : decode cX0_speaksWith 34 = .ok (.ireturn, 1) := by decide +kernel
theorem dX0_speaksWith_35 : decode cX0_speaksWith 35 = .ok (.aload_n 0, 1) := by decide +kernel
theorem dX0_speaksWith_36 : decode cX0_speaksWith 36 = .ok (.iload_n 2, 1) := by decide +kernel
theorem dX0_speaksWith_37 : decode cX0_speaksWith 37 = .ok (.invokevirtual 77, 3) := by decide +kernel
theorem dX0_speaksWith_40 : decode cX0_speaksWith 40 = .ok (.ifCond .eq 20, 3) := by decide +kernel
theorem dX0_speaksWith_43 : decode cX0_speaksWith 43 = .ok (.aload_n 0, 1) := by decide +kernel
theorem dX0_speaksWith_44 : decode cX0_speaksWith 44 = .ok (.iload_n 2, 1) := by decide +kernel
theorem dX0_speaksWith_45 : decode cX0_speaksWith 45 = .ok (.iconst 5, 1) := by decide +kernel
theorem dX0_speaksWith_46 : decode cX0_speaksWith 46 = .ok (.invokevirtual 64, 3) := by decide +kernel
theorem dX0_speaksWith_49 : decode cX0_speaksWith 49 = .ok (.iload_n 1, 1) := by decide +kernel
theorem dX0_speaksWith_50 : decode cX0_speaksWith 50 = .ok (.if_icmp .ne 10, 3) := by decide +kernel
theorem dX0_speaksWith_53 : decode cX0_speaksWith 53 = .ok (.aload_n 0, 1) := by decide +kernel
theorem dX0_speaksWith_54 : decode cX0_speaksWith 54 = .ok (.iload_n 2, 1) := by decide +kernel
theorem dX0_speaksWith_55 : decode cX0_speaksWith 55 = .ok (.iconst 0, 1) := by decide +kernel
theorem dX0_speaksWith_56 : decode cX0_speaksWith 56 = .ok (.invokevirtual 64, 3) := by decide +kernel
theorem dX0_speaksWith_59 : decode cX0_speaksWith 59 = .ok (.ireturn, 1) := by decide +kernel
theorem dX0_speaksWith_60 : decode cX0_speaksWith 60 = .ok (.iinc 2 1, 3) := by decide +kernel
theorem dX0_speaksWith_63 : decode cX0_speaksWith 63 = .ok (.goto (-61), 3) := by decide +kernel
theorem dX0_speaksWith_66 : decode cX0_speaksWith 66 = .ok (.iconst (-1), 1) := by decide +kernel
theorem dX0_speaksWith_67 : decode cX0_speaksWith 67 = .ok (.ireturn, 1) := by decide +kernel
theorem dX0_callOn_0 : decode cX0_callOn 0 = .ok (.iconst 0, 1) := by decide +kernel
theorem dX0_callOn_1 : decode cX0_callOn 1 = .ok (.istore_n 2, 1) := by decide +kernel
theorem dX0_callOn_2 : decode cX0_callOn 2 = .ok (.iload_n 2, 1) := by decide +kernel
theorem dX0_callOn_3 : decode cX0_callOn 3 = .ok (.aload_n 0, 1) := by decide +kernel
theorem dX0_callOn_4 : decode cX0_callOn 4 = .ok (.invokevirtual 67, 3) := by decide +kernel
theorem dX0_callOn_7 : decode cX0_callOn 7 = .ok (.if_icmp .ge 30, 3) := by decide +kernel
theorem dX0_callOn_10 : decode cX0_callOn 10 = .ok (.aload_n 0, 1) := by decide +kernel
theorem dX0_callOn_11 : decode cX0_callOn 11 = .ok (.iload_n 2, 1) := by decide +kernel
theorem dX0_callOn_12 : decode cX0_callOn 12 = .ok (.invokevirtual 77, 3) := by decide +kernel
theorem dX0_callOn_15 : decode cX0_callOn 15 = .ok (.ifCond .eq 16, 3) := by decide +kernel
theorem dX0_callOn_18 : decode cX0_callOn 18 = .ok (.aload_n 0, 1) := by decide +kernel
theorem dX0_callOn_19 : decode cX0_callOn 19 = .ok (.iload_n 2, 1) := by decide +kernel
theorem dX0_callOn_20 : decode cX0_callOn 20 = .ok (.bipush 6, 2) := by decide +kernel
theorem dX0_callOn_22 : decode cX0_callOn 22 = .ok (.invokevirtual 64, 3) := by decide +kernel
theorem dX0_callOn_25 : decode cX0_callOn 25 = .ok (.iload_n 1, 1) := by decide +kernel
theorem dX0_callOn_26 : decode cX0_callOn 26 = .ok (.if_icmp .ne 5, 3) := by decide +kernel
theorem dX0_callOn_29 : decode cX0_callOn 29 = .ok (.iload_n 2, 1) := by decide +kernel
theorem dX0_callOn_30 : decode cX0_callOn 30 = .ok (.ireturn, 1) := by decide +kernel
theorem dX0_callOn_31 : decode cX0_callOn 31 = .ok (.iinc 2 1, 3) := by decide +kernel
theorem dX0_callOn_34 : decode cX0_callOn 34 = .ok (.goto (-32), 3) := by decide +kernel
theorem dX0_callOn_37 : decode cX0_callOn 37 = .ok (.iconst (-1), 1) := by decide +kernel
theorem dX0_callOn_38 : decode cX0_callOn 38 = .ok (.ireturn, 1) := by decide +kernel
theorem dX0_spouse_0 : decode cX0_spouse 0 = .ok (.aload_n 0, 1) := by decide +kernel
theorem dX0_spouse_1 : decode cX0_spouse 1 = .ok (.iload_n 1, 1) := by decide +kernel
theorem dX0_spouse_2 : decode cX0_spouse 2 = .ok (.invokevirtual 81, 3) := by decide +kernel
theorem dX0_spouse_5 : decode cX0_spouse 5 = .ok (.ifCond .eq 14, 3) := by decide +kernel
theorem dX0_spouse_8 : decode cX0_spouse 8 = .ok (.aload_n 0, 1) := by decide +kernel
theorem dX0_spouse_9 : decode cX0_spouse 9 = .ok (.getfield 11, 3) := by decide +kernel
theorem dX0_spouse_12 : decode cX0_spouse 12 = .ok (.iconst 3, 1) := by decide +kernel
theorem dX0_spouse_13 : decode cX0_spouse 13 = .ok (.iload_n 1, 1) := by decide +kernel
theorem dX0_spouse_14 : decode cX0_spouse 14 = .ok (.iadd, 1) := by decide +kernel
theorem dX0_spouse_15 : decode cX0_spouse 15 = .ok (.iaload, 1) := by decide +kernel
theorem dX0_spouse_16 : decode cX0_spouse 16 = .ok (.goto 4, 3) := by decide +kernel
theorem dX0_spouse_19 : decode cX0_spouse 19 = .ok (.iconst (-1), 1) := by decide +kernel
theorem dX0_spouse_20 : decode cX0_spouse 20 = .ok (.ireturn, 1) := by decide +kernel
theorem dX0_marry_0 : decode cX0_marry 0 = .ok (.aload_n 0, 1) := by decide +kernel
theorem dX0_marry_1 : decode cX0_marry 1 = .ok (.iload_n 1, 1) := by decide +kernel
theorem dX0_marry_2 : decode cX0_marry 2 = .ok (.invokevirtual 81, 3) := by decide +kernel
theorem dX0_marry_5 : decode cX0_marry 5 = .ok (.ifCond .eq 29, 3) := by decide +kernel
theorem dX0_marry_8 : decode cX0_marry 8 = .ok (.aload_n 0, 1) := by decide +kernel
theorem dX0_marry_9 : decode cX0_marry 9 = .ok (.iload_n 2, 1) := by decide +kernel
theorem dX0_marry_10 : decode cX0_marry 10 = .ok (.invokevirtual 81, 3) := by decide +kernel
theorem dX0_marry_13 : decode cX0_marry 13 = .ok (.ifCond .eq 21, 3) := by decide +kernel
theorem dX0_marry_16 : decode cX0_marry 16 = .ok (.aload_n 0, 1) := by decide +kernel
theorem dX0_marry_17 : decode cX0_marry 17 = .ok (.getfield 11, 3) := by decide +kernel
theorem dX0_marry_20 : decode cX0_marry 20 = .ok (.iconst 3, 1) := by decide +kernel
theorem dX0_marry_21 : decode cX0_marry 21 = .ok (.iload_n 1, 1) := by decide +kernel
theorem dX0_marry_22 : decode cX0_marry 22 = .ok (.iadd, 1) := by decide +kernel
theorem dX0_marry_23 : decode cX0_marry 23 = .ok (.iload_n 2, 1) := by decide +kernel
theorem dX0_marry_24 : decode cX0_marry 24 = .ok (.iastore, 1) := by decide +kernel
theorem dX0_marry_25 : decode cX0_marry 25 = .ok (.aload_n 0, 1) := by decide +kernel
theorem dX0_marry_26 : decode cX0_marry 26 = .ok (.getfield 11, 3) := by decide +kernel
theorem dX0_marry_29 : decode cX0_marry 29 = .ok (.iconst 3, 1) := by decide +kernel
theorem dX0_marry_30 : decode cX0_marry 30 = .ok (.iload_n 2, 1) := by decide +kernel
theorem dX0_marry_31 : decode cX0_marry 31 = .ok (.iadd, 1) := by decide +kernel
theorem dX0_marry_32 : decode cX0_marry 32 = .ok (.iload_n 1, 1) := by decide +kernel
theorem dX0_marry_33 : decode cX0_marry 33 = .ok (.iastore, 1) := by decide +kernel
theorem dX0_marry_34 : decode cX0_marry 34 = .ok (.return_, 1) := by decide +kernel
theorem dX0_twosMarried_0 : decode cX0_twosMarried 0 = .ok (.iconst 0, 1) := by decide +kernel
theorem dX0_twosMarried_1 : decode cX0_twosMarried 1 = .ok (.istore_n 1, 1) := by decide +kernel
theorem dX0_twosMarried_2 : decode cX0_twosMarried 2 = .ok (.iconst 0, 1) := by decide +kernel
theorem dX0_twosMarried_3 : decode cX0_twosMarried 3 = .ok (.istore_n 2, 1) := by decide +kernel
theorem dX0_twosMarried_4 : decode cX0_twosMarried 4 = .ok (.iload_n 2, 1) := by decide +kernel
theorem dX0_twosMarried_5 : decode cX0_twosMarried 5 = .ok (.aload_n 0, 1) := by decide +kernel
theorem dX0_twosMarried_6 : decode cX0_twosMarried 6 = .ok (.getfield 22, 3) := by decide +kernel
theorem dX0_twosMarried_9 : decode cX0_twosMarried 9 = .ok (.getfield 58, 3) := by decide +kernel
theorem dX0_twosMarried_12 : decode cX0_twosMarried 12 = .ok (.if_icmp .ge 21, 3) := by decide +kernel
theorem dX0_twosMarried_15 : decode cX0_twosMarried 15 = .ok (.aload_n 0, 1) := by decide +kernel
theorem dX0_twosMarried_16 : decode cX0_twosMarried 16 = .ok (.iload_n 2, 1) := by decide +kernel
theorem dX0_twosMarried_17 : decode cX0_twosMarried 17 = .ok (.invokevirtual 84, 3) := by decide +kernel
theorem dX0_twosMarried_20 : decode cX0_twosMarried 20 = .ok (.iload_n 2, 1) := by decide +kernel
theorem dX0_twosMarried_21 : decode cX0_twosMarried 21 = .ok (.if_icmp .le 6, 3) := by decide +kernel
theorem dX0_twosMarried_24 : decode cX0_twosMarried 24 = .ok (.iinc 1 1, 3) := by decide +kernel
theorem dX0_twosMarried_27 : decode cX0_twosMarried 27 = .ok (.iinc 2 1, 3) := by decide +kernel
theorem dX0_twosMarried_30 : decode cX0_twosMarried 30 = .ok (.goto (-26), 3) := by decide +kernel
theorem dX0_twosMarried_33 : decode cX0_twosMarried 33 = .ok (.iload_n 1, 1) := by decide +kernel
theorem dX0_twosMarried_34 : decode cX0_twosMarried 34 = .ok (.ireturn, 1) := by decide +kernel
theorem dX0_isShut_0 : decode cX0_isShut 0 = .ok (.aload_n 0, 1) := by decide +kernel
theorem dX0_isShut_1 : decode cX0_isShut 1 = .ok (.iload_n 1, 1) := by decide +kernel
theorem dX0_isShut_2 : decode cX0_isShut 2 = .ok (.invokevirtual 81, 3) := by decide +kernel
theorem dX0_isShut_5 : decode cX0_isShut 5 = .ok (.ifCond .eq 21, 3) := by decide +kernel
theorem dX0_isShut_8 : decode cX0_isShut 8 = .ok (.aload_n 0, 1) := by decide +kernel
theorem dX0_isShut_9 : decode cX0_isShut 9 = .ok (.getfield 11, 3) := by decide +kernel
theorem dX0_isShut_12 : decode cX0_isShut 12 = .ok (.iconst 2, 1) := by decide +kernel
theorem dX0_isShut_13 : decode cX0_isShut 13 = .ok (.iaload, 1) := by decide +kernel
theorem dX0_isShut_14 : decode cX0_isShut 14 = .ok (.iload_n 1, 1) := by decide +kernel
theorem dX0_isShut_15 : decode cX0_isShut 15 = .ok (.ishr, 1) := by decide +kernel
theorem dX0_isShut_16 : decode cX0_isShut 16 = .ok (.iconst 1, 1) := by decide +kernel
theorem dX0_isShut_17 : decode cX0_isShut 17 = .ok (.iand, 1) := by decide +kernel
theorem dX0_isShut_18 : decode cX0_isShut 18 = .ok (.iconst 1, 1) := by decide +kernel
theorem dX0_isShut_19 : decode cX0_isShut 19 = .ok (.if_icmp .ne 7, 3) := by decide +kernel
theorem dX0_isShut_22 : decode cX0_isShut 22 = .ok (.iconst 1, 1) := by decide +kernel
theorem dX0_isShut_23 : decode cX0_isShut 23 = .ok (.goto 4, 3) := by decide +kernel
theorem dX0_isShut_26 : decode cX0_isShut 26 = .ok (.iconst 0, 1) := by decide +kernel
theorem dX0_isShut_27 : decode cX0_isShut 27 = .ok (.ireturn, 1) := by decide +kernel
theorem dX0_turnDoor_0 : decode cX0_turnDoor 0 = .ok (.aload_n 0, 1) := by decide +kernel
theorem dX0_turnDoor_1 : decode cX0_turnDoor 1 = .ok (.iload_n 1, 1) := by decide +kernel
theorem dX0_turnDoor_2 : decode cX0_turnDoor 2 = .ok (.invokevirtual 81, 3) := by decide +kernel
theorem dX0_turnDoor_5 : decode cX0_turnDoor 5 = .ok (.ifCond .eq 15, 3) := by decide +kernel
theorem dX0_turnDoor_8 : decode cX0_turnDoor 8 = .ok (.aload_n 0, 1) := by decide +kernel
theorem dX0_turnDoor_9 : decode cX0_turnDoor 9 = .ok (.getfield 11, 3) := by decide +kernel
theorem dX0_turnDoor_12 : decode cX0_turnDoor 12 = .ok (.iconst 2, 1) := by decide +kernel
theorem dX0_turnDoor_13 : decode cX0_turnDoor 13 = .ok (.dup2, 1) := by decide +kernel
theorem dX0_turnDoor_14 : decode cX0_turnDoor 14 = .ok (.iaload, 1) := by decide +kernel
theorem dX0_turnDoor_15 : decode cX0_turnDoor 15 = .ok (.iconst 1, 1) := by decide +kernel
theorem dX0_turnDoor_16 : decode cX0_turnDoor 16 = .ok (.iload_n 1, 1) := by decide +kernel
theorem dX0_turnDoor_17 : decode cX0_turnDoor 17 = .ok (.ishl, 1) := by decide +kernel
theorem dX0_turnDoor_18 : decode cX0_turnDoor 18 = .ok (.ixor, 1) := by decide +kernel
theorem dX0_turnDoor_19 : decode cX0_turnDoor 19 = .ok (.iastore, 1) := by decide +kernel
theorem dX0_turnDoor_20 : decode cX0_turnDoor 20 = .ok (.return_, 1) := by decide +kernel
theorem dX0_whereTo_0 : decode cX0_whereTo 0 = .ok (.aload_n 0, 1) := by decide +kernel
theorem dX0_whereTo_1 : decode cX0_whereTo 1 = .ok (.iload_n 1, 1) := by decide +kernel
theorem dX0_whereTo_2 : decode cX0_whereTo 2 = .ok (.iconst 1, 1) := by decide +kernel
theorem dX0_whereTo_3 : decode cX0_whereTo 3 = .ok (.invokevirtual 64, 3) := by decide +kernel
theorem dX0_whereTo_6 : decode cX0_whereTo 6 = .ok (.istore_n 3, 1) := by decide +kernel
theorem dX0_whereTo_7 : decode cX0_whereTo 7 = .ok (.aload_n 0, 1) := by decide +kernel
theorem dX0_whereTo_8 : decode cX0_whereTo 8 = .ok (.getfield 22, 3) := by decide +kernel
theorem dX0_whereTo_11 : decode cX0_whereTo 11 = .ok (.getfield 87, 3) := by decide +kernel
theorem dX0_whereTo_14 : decode cX0_whereTo 14 = .ok (.astore 4, 2) := by decide +kernel
theorem dX0_whereTo_16 : decode cX0_whereTo 16 = .ok (.aload 4, 2) := by decide +kernel
theorem dX0_whereTo_18 : decode cX0_whereTo 18 = .ok (.ifnull 13, 3) := by decide +kernel
theorem dX0_whereTo_21 : decode cX0_whereTo 21 = .ok (.aload_n 0, 1) := by decide +kernel
theorem dX0_whereTo_22 : decode cX0_whereTo 22 = .ok (.getfield 22, 3) := by decide +kernel
theorem dX0_whereTo_25 : decode cX0_whereTo 25 = .ok (.getfield 58, 3) := by decide +kernel
theorem dX0_whereTo_28 : decode cX0_whereTo 28 = .ok (.ifCond .gt 5, 3) := by decide +kernel
theorem dX0_whereTo_31 : decode cX0_whereTo 31 = .ok (.iload_n 3, 1) := by decide +kernel
theorem dX0_whereTo_32 : decode cX0_whereTo 32 = .ok (.ireturn, 1) := by decide +kernel
theorem dX0_whereTo_33 : decode cX0_whereTo 33 = .ok (.aload 4, 2) := by decide +kernel
theorem dX0_whereTo_35 : decode cX0_whereTo 35 = .ok (.aload_n 0, 1) := by decide +kernel
theorem dX0_whereTo_36 : decode cX0_whereTo 36 = .ok (.iload_n 1, 1) := by decide +kernel
theorem dX0_whereTo_37 : decode cX0_whereTo 37 = .ok (.iconst 0, 1) := by decide +kernel
theorem dX0_whereTo_38 : decode cX0_whereTo 38 = .ok (.invokevirtual 64, 3) := by decide +kernel
theorem dX0_whereTo_41 : decode cX0_whereTo 41 = .ok (.iload_n 3, 1) := by decide +kernel
theorem dX0_whereTo_42 : decode cX0_whereTo 42 = .ok (.iload_n 2, 1) := by decide +kernel
theorem dX0_whereTo_43 : decode cX0_whereTo 43 = .ok (.bipush 60, 2) := by decide +kernel
theorem dX0_whereTo_45 : decode cX0_whereTo 45 = .ok (.irem, 1) := by decide +kernel
theorem dX0_whereTo_46 : decode cX0_whereTo 46 = .ok (.iload_n 1, 1) := by decide +kernel
theorem dX0_whereTo_47 : decode cX0_whereTo 47 = .ok (.invokevirtual 91, 3) := by decide +kernel
theorem dX0_whereTo_50 : decode cX0_whereTo 50 = .ok (.iload_n 3, 1) := by decide +kernel
theorem dX0_whereTo_51 : decode cX0_whereTo 51 = .ok (.aload 4, 2) := by decide +kernel
theorem dX0_whereTo_53 : decode cX0_whereTo 53 = .ok (.invokevirtual 97, 3) := by decide +kernel
theorem dX0_whereTo_56 : decode cX0_whereTo 56 = .ok (.aload_n 0, 1) := by decide +kernel
theorem dX0_whereTo_57 : decode cX0_whereTo 57 = .ok (.getfield 22, 3) := by decide +kernel
theorem dX0_whereTo_60 : decode cX0_whereTo 60 = .ok (.getfield 58, 3) := by decide +kernel
theorem dX0_whereTo_63 : decode cX0_whereTo 63 = .ok (.invokestatic 100, 3) := by decide +kernel
theorem dX0_whereTo_66 : decode cX0_whereTo 66 = .ok (.iadd, 1) := by decide +kernel
theorem dX0_whereTo_67 : decode cX0_whereTo 67 = .ok (.aload_n 0, 1) := by decide +kernel
theorem dX0_whereTo_68 : decode cX0_whereTo 68 = .ok (.getfield 22, 3) := by decide +kernel
theorem dX0_whereTo_71 : decode cX0_whereTo 71 = .ok (.getfield 58, 3) := by decide +kernel
theorem dX0_whereTo_74 : decode cX0_whereTo 74 = .ok (.irem, 1) := by decide +kernel
theorem dX0_whereTo_75 : decode cX0_whereTo 75 = .ok (.ireturn, 1) := by decide +kernel
theorem dX0_neverBegin_0 : decode cX0_neverBegin 0 = .ok (.aload_n 0, 1) := by decide +kernel
theorem dX0_neverBegin_1 : decode cX0_neverBegin 1 = .ok (.iload_n 1, 1) := by decide +kernel
theorem dX0_neverBegin_2 : decode cX0_neverBegin 2 = .ok (.iconst 4, 1) := by decide +kernel
theorem dX0_neverBegin_3 : decode cX0_neverBegin 3 = .ok (.iconst 2, 1) := by decide +kernel
theorem dX0_neverBegin_4 : decode cX0_neverBegin 4 = .ok (.invokevirtual 105, 3) := by decide +kernel
theorem dX0_neverBegin_7 : decode cX0_neverBegin 7 = .ok (.return_, 1) := by decide +kernel
theorem dX0_whyNotRing_0 : decode cX0_whyNotRing 0 = .ok (.aload_n 0, 1) := by decide +kernel
theorem dX0_whyNotRing_1 : decode cX0_whyNotRing 1 = .ok (.iload_n 1, 1) := by decide +kernel
theorem dX0_whyNotRing_2 : decode cX0_whyNotRing 2 = .ok (.invokevirtual 81, 3) := by decide +kernel
theorem dX0_whyNotRing_5 : decode cX0_whyNotRing 5 = .ok (.ifCond .eq 27, 3) := by decide +kernel
theorem dX0_whyNotRing_8 : decode cX0_whyNotRing 8 = .ok (.aload_n 0, 1) := by decide +kernel
theorem dX0_whyNotRing_9 : decode cX0_whyNotRing 9 = .ok (.iload_n 2, 1) := by decide +kernel
theorem dX0_whyNotRing_10 : decode cX0_whyNotRing 10 = .ok (.invokevirtual 81, 3) := by decide +kernel
theorem dX0_whyNotRing_13 : decode cX0_whyNotRing 13 = .ok (.ifCond .eq 19, 3) := by decide +kernel
theorem dX0_whyNotRing_16 : decode cX0_whyNotRing 16 = .ok (.iload_n 1, 1) := by decide +kernel
theorem dX0_whyNotRing_17 : decode cX0_whyNotRing 17 = .ok (.iload_n 2, 1) := by decide +kernel
theorem dX0_whyNotRing_18 : decode cX0_whyNotRing 18 = .ok (.if_icmp .eq 14, 3) := by decide +kernel
theorem dX0_whyNotRing_21 : decode cX0_whyNotRing 21 = .ok (.iload_n 3, 1) := by decide +kernel
theorem dX0_whyNotRing_22 : decode cX0_whyNotRing 22 = .ok (.iconst 1, 1) := by decide +kernel
theorem dX0_whyNotRing_23 : decode cX0_whyNotRing 23 = .ok (.if_icmp .lt 9, 3) := by decide +kernel
theorem dX0_whyNotRing_26 : decode cX0_whyNotRing 26 = .ok (.iload_n 3, 1) := by decide +kernel
theorem dX0_whyNotRing_27 : decode cX0_whyNotRing 27 = .ok (.bipush 99, 2) := by decide +kernel
theorem dX0_whyNotRing_29 : decode cX0_whyNotRing 29 = .ok (.if_icmp .le 5, 3) := by decide +kernel
theorem dX0_whyNotRing_32 : decode cX0_whyNotRing 32 = .ok (.iconst 1, 1) := by decide +kernel
theorem dX0_whyNotRing_33 : decode cX0_whyNotRing 33 = .ok (.ireturn, 1) := by decide +kernel
theorem dX0_whyNotRing_34 : decode cX0_whyNotRing 34 = .ok (.aload_n 0, 1) := by decide +kernel
theorem dX0_whyNotRing_35 : decode cX0_whyNotRing 35 = .ok (.invokevirtual 67, 3) := by decide +kernel
theorem dX0_whyNotRing_38 : decode cX0_whyNotRing 38 = .ok (.bipush 10, 2) := by decide +kernel
theorem dX0_whyNotRing_40 : decode cX0_whyNotRing 40 = .ok (.if_icmp .lt 7, 3) := by decide +kernel
theorem dX0_whyNotRing_43 : decode cX0_whyNotRing 43 = .ok (.iconst 2, 1) := by decide +kernel
theorem dX0_whyNotRing_44 : decode cX0_whyNotRing 44 = .ok (.goto 4, 3) := by decide +kernel
theorem dX0_whyNotRing_47 : decode cX0_whyNotRing 47 = .ok (.iconst 0, 1) := by decide +kernel
theorem dX0_whyNotRing_48 : decode cX0_whyNotRing 48 = .ok (.ireturn, 1) := by decide +kernel
theorem dX0_ring_0 : decode cX0_ring 0 = .ok (.aload_n 0, 1) := by decide +kernel
theorem dX0_ring_1 : decode cX0_ring 1 = .ok (.iload_n 1, 1) := by decide +kernel
theorem dX0_ring_2 : decode cX0_ring 2 = .ok (.iload_n 2, 1) := by decide +kernel
theorem dX0_ring_3 : decode cX0_ring 3 = .ok (.aload_n 0, 1) := by decide +kernel
theorem dX0_ring_4 : decode cX0_ring 4 = .ok (.invokevirtual 109, 3) := by decide +kernel
theorem dX0_ring_7 : decode cX0_ring 7 = .ok (.iload_n 3, 1) := by decide +kernel
theorem dX0_ring_8 : decode cX0_ring 8 = .ok (.invokevirtual 42, 3) := by decide +kernel
theorem dX0_ring_11 : decode cX0_ring 11 = .ok (.ireturn, 1) := by decide +kernel
theorem dX0_addCall_0 : decode cX0_addCall 0 = .ok (.aload_n 0, 1) := by decide +kernel
theorem dX0_addCall_1 : decode cX0_addCall 1 = .ok (.invokevirtual 67, 3) := by decide +kernel
theorem dX0_addCall_4 : decode cX0_addCall 4 = .ok (.bipush 10, 2) := by decide +kernel
theorem dX0_addCall_6 : decode cX0_addCall 6 = .ok (.if_icmp .lt 5, 3) := by decide +kernel
theorem dX0_addCall_9 : decode cX0_addCall 9 = .ok (.iconst (-1), 1) := by decide +kernel
theorem dX0_addCall_10 : decode cX0_addCall 10 = .ok (.ireturn, 1) := by decide +kernel
theorem dX0_addCall_11 : decode cX0_addCall 11 = .ok (.aload_n 0, 1) := by decide +kernel
theorem dX0_addCall_12 : decode cX0_addCall 12 = .ok (.invokevirtual 67, 3) := by decide +kernel
theorem dX0_addCall_15 : decode cX0_addCall 15 = .ok (.istore 5, 2) := by decide +kernel
theorem dX0_addCall_17 : decode cX0_addCall 17 = .ok (.aload_n 0, 1) := by decide +kernel
theorem dX0_addCall_18 : decode cX0_addCall 18 = .ok (.getfield 11, 3) := by decide +kernel
theorem dX0_addCall_21 : decode cX0_addCall 21 = .ok (.iconst 1, 1) := by decide +kernel
theorem dX0_addCall_22 : decode cX0_addCall 22 = .ok (.dup2, 1) := by decide +kernel
theorem dX0_addCall_23 : decode cX0_addCall 23 = .ok (.iaload, 1) := by decide +kernel
theorem dX0_addCall_24 : decode cX0_addCall 24 = .ok (.iconst 1, 1) := by decide +kernel
theorem dX0_addCall_25 : decode cX0_addCall 25 = .ok (.iadd, 1) := by decide +kernel
theorem dX0_addCall_26 : decode cX0_addCall 26 = .ok (.iastore, 1) := by decide +kernel
theorem dX0_addCall_27 : decode cX0_addCall 27 = .ok (.aload_n 0, 1) := by decide +kernel
theorem dX0_addCall_28 : decode cX0_addCall 28 = .ok (.iload 5, 2) := by decide +kernel
theorem dX0_addCall_30 : decode cX0_addCall 30 = .ok (.iconst 0, 1) := by decide +kernel
theorem dX0_addCall_31 : decode cX0_addCall 31 = .ok (.iload_n 1, 1) := by decide +kernel
theorem dX0_addCall_32 : decode cX0_addCall 32 = .ok (.invokevirtual 105, 3) := by decide +kernel
theorem dX0_addCall_35 : decode cX0_addCall 35 = .ok (.aload_n 0, 1) := by decide +kernel
theorem dX0_addCall_36 : decode cX0_addCall 36 = .ok (.iload 5, 2) := by decide +kernel
theorem dX0_addCall_38 : decode cX0_addCall 38 = .ok (.iconst 1, 1) := by decide +kernel
theorem dX0_addCall_39 : decode cX0_addCall 39 = .ok (.iload_n 2, 1) := by decide +kernel
theorem dX0_addCall_40 : decode cX0_addCall 40 = .ok (.invokevirtual 105, 3) := by decide +kernel
theorem dX0_addCall_43 : decode cX0_addCall 43 = .ok (.aload_n 0, 1) := by decide +kernel
theorem dX0_addCall_44 : decode cX0_addCall 44 = .ok (.iload 5, 2) := by decide +kernel
theorem dX0_addCall_46 : decode cX0_addCall 46 = .ok (.iconst 2, 1) := by decide +kernel
theorem dX0_addCall_47 : decode cX0_addCall 47 = .ok (.iload_n 3, 1) := by decide +kernel
theorem dX0_addCall_48 : decode cX0_addCall 48 = .ok (.invokevirtual 105, 3) := by decide +kernel
theorem dX0_addCall_51 : decode cX0_addCall 51 = .ok (.aload_n 0, 1) := by decide +kernel
theorem dX0_addCall_52 : decode cX0_addCall 52 = .ok (.iload 5, 2) := by decide +kernel
theorem dX0_addCall_54 : decode cX0_addCall 54 = .ok (.iconst 3, 1) := by decide +kernel
theorem dX0_addCall_55 : decode cX0_addCall 55 = .ok (.iload 4, 2) := by decide +kernel
theorem dX0_addCall_57 : decode cX0_addCall 57 = .ok (.invokevirtual 105, 3) := by decide +kernel
theorem dX0_addCall_60 : decode cX0_addCall 60 = .ok (.aload_n 0, 1) := by decide +kernel
theorem dX0_addCall_61 : decode cX0_addCall 61 = .ok (.iload 5, 2) := by decide +kernel
theorem dX0_addCall_63 : decode cX0_addCall 63 = .ok (.iconst 4, 1) := by decide +kernel
theorem dX0_addCall_64 : decode cX0_addCall 64 = .ok (.iload_n 3, 1) := by decide +kernel
theorem dX0_addCall_65 : decode cX0_addCall 65 = .ok (.aload_n 0, 1) := by decide +kernel
theorem dX0_addCall_66 : decode cX0_addCall 66 = .ok (.invokevirtual 109, 3) := by decide +kernel
theorem dX0_addCall_69 : decode cX0_addCall 69 = .ok (.if_icmp .ge 7, 3) := by decide +kernel
theorem dX0_addCall_72 : decode cX0_addCall 72 = .ok (.iconst 3, 1) := by decide +kernel
theorem dX0_addCall_73 : decode cX0_addCall 73 = .ok (.goto 4, 3) := by decide +kernel
theorem dX0_addCall_76 : decode cX0_addCall 76 = .ok (.iconst 0, 1) := by decide +kernel
theorem dX0_addCall_77 : decode cX0_addCall 77 = .ok (.invokevirtual 105, 3) := by decide +kernel
theorem dX0_addCall_80 : decode cX0_addCall 80 = .ok (.aload_n 0, 1) := by decide +kernel
theorem dX0_addCall_81 : decode cX0_addCall 81 = .ok (.iload 5, 2) := by decide +kernel
theorem dX0_addCall_83 : decode cX0_addCall 83 = .ok (.iconst 5, 1) := by decide +kernel
theorem dX0_addCall_84 : decode cX0_addCall 84 = .ok (.iconst (-1), 1) := by decide +kernel
theorem dX0_addCall_85 : decode cX0_addCall 85 = .ok (.invokevirtual 105, 3) := by decide +kernel
theorem dX0_addCall_88 : decode cX0_addCall 88 = .ok (.aload_n 0, 1) := by decide +kernel
theorem dX0_addCall_89 : decode cX0_addCall 89 = .ok (.iload 5, 2) := by decide +kernel
theorem dX0_addCall_91 : decode cX0_addCall 91 = .ok (.bipush 6, 2) := by decide +kernel
theorem dX0_addCall_93 : decode cX0_addCall 93 = .ok (.iconst (-1), 1) := by decide +kernel
theorem dX0_addCall_94 : decode cX0_addCall 94 = .ok (.invokevirtual 105, 3) := by decide +kernel
theorem dX0_addCall_97 : decode cX0_addCall 97 = .ok (.iload 5, 2) := by decide +kernel
theorem dX0_addCall_99 : decode cX0_addCall 99 = .ok (.ireturn, 1) := by decide +kernel
theorem dX0_whyNotUnplug_0 : decode cX0_whyNotUnplug 0 = .ok (.iload_n 1, 1) := by decide +kernel
theorem dX0_whyNotUnplug_1 : decode cX0_whyNotUnplug 1 = .ok (.ifCond .lt 11, 3) := by decide +kernel
theorem dX0_whyNotUnplug_4 : decode cX0_whyNotUnplug 4 = .ok (.iload_n 1, 1) := by decide +kernel
theorem dX0_whyNotUnplug_5 : decode cX0_whyNotUnplug 5 = .ok (.aload_n 0, 1) := by decide +kernel
theorem dX0_whyNotUnplug_6 : decode cX0_whyNotUnplug 6 = .ok (.invokevirtual 67, 3) := by decide +kernel
theorem dX0_whyNotUnplug_9 : decode cX0_whyNotUnplug 9 = .ok (.if_icmp .lt 5, 3) := by decide +kernel
theorem dX0_whyNotUnplug_12 : decode cX0_whyNotUnplug 12 = .ok (.iconst 1, 1) := by decide +kernel
theorem dX0_whyNotUnplug_13 : decode cX0_whyNotUnplug 13 = .ok (.ireturn, 1) := by decide +kernel
theorem dX0_whyNotUnplug_14 : decode cX0_whyNotUnplug 14 = .ok (.aload_n 0, 1) := by decide +kernel
theorem dX0_whyNotUnplug_15 : decode cX0_whyNotUnplug 15 = .ok (.iload_n 1, 1) := by decide +kernel
theorem dX0_whyNotUnplug_16 : decode cX0_whyNotUnplug 16 = .ok (.invokevirtual 77, 3) := by decide +kernel
theorem dX0_whyNotUnplug_19 : decode cX0_whyNotUnplug 19 = .ok (.ifCond .eq 7, 3) := by decide +kernel
theorem dX0_whyNotUnplug_22 : decode cX0_whyNotUnplug 22 = .ok (.iconst 0, 1) := by decide +kernel
theorem dX0_whyNotUnplug_23 : decode cX0_whyNotUnplug 23 = .ok (.goto 4, 3) := by decide +kernel
theorem dX0_whyNotUnplug_26 : decode cX0_whyNotUnplug 26 = .ok (.iconst 2, 1) := by decide +kernel
theorem dX0_whyNotUnplug_27 : decode cX0_whyNotUnplug 27 = .ok (.ireturn, 1) := by decide +kernel
theorem dX0_unplug_0 : decode cX0_unplug 0 = .ok (.aload_n 0, 1) := by decide +kernel
theorem dX0_unplug_1 : decode cX0_unplug 1 = .ok (.iload_n 1, 1) := by decide +kernel
theorem dX0_unplug_2 : decode cX0_unplug 2 = .ok (.iconst 4, 1) := by decide +kernel
theorem dX0_unplug_3 : decode cX0_unplug 3 = .ok (.iconst 2, 1) := by decide +kernel
theorem dX0_unplug_4 : decode cX0_unplug 4 = .ok (.invokevirtual 105, 3) := by decide +kernel
theorem dX0_unplug_7 : decode cX0_unplug 7 = .ok (.aload_n 0, 1) := by decide +kernel
theorem dX0_unplug_8 : decode cX0_unplug 8 = .ok (.iload_n 1, 1) := by decide +kernel
theorem dX0_unplug_9 : decode cX0_unplug 9 = .ok (.bipush 6, 2) := by decide +kernel
theorem dX0_unplug_11 : decode cX0_unplug 11 = .ok (.invokevirtual 64, 3) := by decide +kernel
theorem dX0_unplug_14 : decode cX0_unplug 14 = .ok (.ireturn, 1) := by decide +kernel
theorem dX0_whyNotTold_0 : decode cX0_whyNotTold 0 = .ok (.lload_n 1, 1) := by decide +kernel
theorem dX0_whyNotTold_1 : decode cX0_whyNotTold 1 = .ok (.ldc2_w 110, 3) := by decide +kernel
theorem dX0_whyNotTold_4 : decode cX0_whyNotTold 4 = .ok (.lcmp, 1) := by decide +kernel
theorem dX0_whyNotTold_5 : decode cX0_whyNotTold 5 = .ok (.ifCond .ne 5, 3) := by decide +kernel
theorem dX0_whyNotTold_8 : decode cX0_whyNotTold 8 = .ok (.iconst 0, 1) := by decide +kernel
theorem dX0_whyNotTold_9 : decode cX0_whyNotTold 9 = .ok (.ireturn, 1) := by decide +kernel
theorem dX0_whyNotTold_10 : decode cX0_whyNotTold 10 = .ok (.lload_n 1, 1) := by decide +kernel
theorem dX0_whyNotTold_11 : decode cX0_whyNotTold 11 = .ok (.lconst 0, 1) := by decide +kernel
theorem dX0_whyNotTold_12 : decode cX0_whyNotTold 12 = .ok (.lcmp, 1) := by decide +kernel
theorem dX0_whyNotTold_13 : decode cX0_whyNotTold 13 = .ok (.ifCond .lt 11, 3) := by decide +kernel
theorem dX0_whyNotTold_16 : decode cX0_whyNotTold 16 = .ok (.lload_n 1, 1) := by decide +kernel
theorem dX0_whyNotTold_17 : decode cX0_whyNotTold 17 = .ok (.ldc2_w 112, 3) := by decide +kernel
theorem dX0_whyNotTold_20 : decode cX0_whyNotTold 20 = .ok (.lcmp, 1) := by decide +kernel
theorem dX0_whyNotTold_21 : decode cX0_whyNotTold 21 = .ok (.ifCond .lt 5, 3) := by decide +kernel
theorem dX0_whyNotTold_24 : decode cX0_whyNotTold 24 = .ok (.iconst 1, 1) := by decide +kernel
theorem dX0_whyNotTold_25 : decode cX0_whyNotTold 25 = .ok (.ireturn, 1) := by decide +kernel
theorem dX0_whyNotTold_26 : decode cX0_whyNotTold 26 = .ok (.lload_n 1, 1) := by decide +kernel
theorem dX0_whyNotTold_27 : decode cX0_whyNotTold 27 = .ok (.l2i, 1) := by decide +kernel
theorem dX0_whyNotTold_28 : decode cX0_whyNotTold 28 = .ok (.istore_n 3, 1) := by decide +kernel
theorem dX0_whyNotTold_29 : decode cX0_whyNotTold 29 = .ok (.iload_n 3, 1) := by decide +kernel
theorem dX0_whyNotTold_30 : decode cX0_whyNotTold 30 = .ok (.bipush 100, 2) := by decide +kernel
theorem dX0_whyNotTold_32 : decode cX0_whyNotTold 32 = .ok (.if_icmp .ge 17, 3) := by decide +kernel
theorem dX0_whyNotTold_35 : decode cX0_whyNotTold 35 = .ok (.aload_n 0, 1) := by decide +kernel
theorem dX0_whyNotTold_36 : decode cX0_whyNotTold 36 = .ok (.iload_n 3, 1) := by decide +kernel
theorem dX0_whyNotTold_37 : decode cX0_whyNotTold 37 = .ok (.bipush 10, 2) := by decide +kernel
theorem dX0_whyNotTold_39 : decode cX0_whyNotTold 39 = .ok (.idiv, 1) := by decide +kernel
theorem dX0_whyNotTold_40 : decode cX0_whyNotTold 40 = .ok (.iload_n 3, 1) := by decide +kernel
theorem dX0_whyNotTold_41 : decode cX0_whyNotTold 41 = .ok (.bipush 10, 2) := by decide +kernel
theorem dX0_whyNotTold_43 : decode cX0_whyNotTold 43 = .ok (.irem, 1) := by decide +kernel
theorem dX0_whyNotTold_44 : decode cX0_whyNotTold 44 = .ok (.iconst 5, 1) := by decide +kernel
theorem dX0_whyNotTold_45 : decode cX0_whyNotTold 45 = .ok (.invokevirtual 114, 3) := by decide +kernel
theorem dX0_whyNotTold_48 : decode cX0_whyNotTold 48 = .ok (.ireturn, 1) := by decide +kernel
theorem dX0_whyNotTold_49 : decode cX0_whyNotTold 49 = .ok (.iload_n 3, 1) := by decide +kernel
theorem dX0_whyNotTold_50 : decode cX0_whyNotTold 50 = .ok (.sipush 200, 3) := by decide +kernel
theorem dX0_whyNotTold_53 : decode cX0_whyNotTold 53 = .ok (.if_icmp .ge 20, 3) := by decide +kernel
theorem dX0_whyNotTold_56 : decode cX0_whyNotTold 56 = .ok (.aload_n 0, 1) := by decide +kernel
theorem dX0_whyNotTold_57 : decode cX0_whyNotTold 57 = .ok (.iload_n 3, 1) := by decide +kernel
theorem dX0_whyNotTold_58 : decode cX0_whyNotTold 58 = .ok (.bipush 100, 2) := by decide +kernel
theorem dX0_whyNotTold_60 : decode cX0_whyNotTold 60 = .ok (.isub, 1) := by decide +kernel
theorem dX0_whyNotTold_61 : decode cX0_whyNotTold 61 = .ok (.invokevirtual 81, 3) := by decide +kernel
theorem dX0_whyNotTold_64 : decode cX0_whyNotTold 64 = .ok (.ifCond .eq 7, 3) := by decide +kernel
theorem dX0_whyNotTold_67 : decode cX0_whyNotTold 67 = .ok (.iconst 0, 1) := by decide +kernel
theorem dX0_whyNotTold_68 : decode cX0_whyNotTold 68 = .ok (.goto 4, 3) := by decide +kernel
theorem dX0_whyNotTold_71 : decode cX0_whyNotTold 71 = .ok (.iconst 1, 1) := by decide +kernel
theorem dX0_whyNotTold_72 : decode cX0_whyNotTold 72 = .ok (.ireturn, 1) := by decide +kernel
theorem dX0_whyNotTold_73 : decode cX0_whyNotTold 73 = .ok (.aload_n 0, 1) := by decide +kernel
theorem dX0_whyNotTold_74 : decode cX0_whyNotTold 74 = .ok (.iload_n 3, 1) := by decide +kernel
theorem dX0_whyNotTold_75 : decode cX0_whyNotTold 75 = .ok (.sipush 200, 3) := by decide +kernel
theorem dX0_whyNotTold_78 : decode cX0_whyNotTold 78 = .ok (.isub, 1) := by decide +kernel
theorem dX0_whyNotTold_79 : decode cX0_whyNotTold 79 = .ok (.invokevirtual 118, 3) := by decide +kernel
theorem dX0_whyNotTold_82 : decode cX0_whyNotTold 82 = .ok (.ireturn, 1) := by decide +kernel
theorem dX0_doTold_0 : decode cX0_doTold 0 = .ok (.lload_n 1, 1) := by decide +kernel
theorem dX0_doTold_1 : decode cX0_doTold 1 = .ok (.ldc2_w 110, 3) := by decide +kernel
theorem dX0_doTold_4 : decode cX0_doTold 4 = .ok (.lcmp, 1) := by decide +kernel
theorem dX0_doTold_5 : decode cX0_doTold 5 = .ok (.ifCond .ne 10, 3) := by decide +kernel
theorem dX0_doTold_8 : decode cX0_doTold 8 = .ok (.aload_n 0, 1) := by decide +kernel
theorem dX0_doTold_9 : decode cX0_doTold 9 = .ok (.iconst 1, 1) := by decide +kernel
theorem dX0_doTold_10 : decode cX0_doTold 10 = .ok (.invokevirtual 121, 3) := by decide +kernel
theorem dX0_doTold_13 : decode cX0_doTold 13 = .ok (.pop, 1) := by decide +kernel
theorem dX0_doTold_14 : decode cX0_doTold 14 = .ok (.return_, 1) := by decide +kernel
theorem dX0_doTold_15 : decode cX0_doTold 15 = .ok (.lload_n 1, 1) := by decide +kernel
theorem dX0_doTold_16 : decode cX0_doTold 16 = .ok (.l2i, 1) := by decide +kernel
theorem dX0_doTold_17 : decode cX0_doTold 17 = .ok (.istore_n 3, 1) := by decide +kernel
theorem dX0_doTold_18 : decode cX0_doTold 18 = .ok (.iload_n 3, 1) := by decide +kernel
theorem dX0_doTold_19 : decode cX0_doTold 19 = .ok (.bipush 100, 2) := by decide +kernel
theorem dX0_doTold_21 : decode cX0_doTold 21 = .ok (.if_icmp .ge 20, 3) := by decide +kernel
theorem dX0_doTold_24 : decode cX0_doTold 24 = .ok (.aload_n 0, 1) := by decide +kernel
theorem dX0_doTold_25 : decode cX0_doTold 25 = .ok (.iload_n 3, 1) := by decide +kernel
theorem dX0_doTold_26 : decode cX0_doTold 26 = .ok (.bipush 10, 2) := by decide +kernel
theorem dX0_doTold_28 : decode cX0_doTold 28 = .ok (.idiv, 1) := by decide +kernel
theorem dX0_doTold_29 : decode cX0_doTold 29 = .ok (.iload_n 3, 1) := by decide +kernel
theorem dX0_doTold_30 : decode cX0_doTold 30 = .ok (.bipush 10, 2) := by decide +kernel
theorem dX0_doTold_32 : decode cX0_doTold 32 = .ok (.irem, 1) := by decide +kernel
theorem dX0_doTold_33 : decode cX0_doTold 33 = .ok (.iconst 5, 1) := by decide +kernel
theorem dX0_doTold_34 : decode cX0_doTold 34 = .ok (.invokevirtual 124, 3) := by decide +kernel
theorem dX0_doTold_37 : decode cX0_doTold 37 = .ok (.pop, 1) := by decide +kernel
theorem dX0_doTold_38 : decode cX0_doTold 38 = .ok (.goto 31, 3) := by decide +kernel
theorem dX0_doTold_41 : decode cX0_doTold 41 = .ok (.iload_n 3, 1) := by decide +kernel
theorem dX0_doTold_42 : decode cX0_doTold 42 = .ok (.sipush 200, 3) := by decide +kernel
theorem dX0_doTold_45 : decode cX0_doTold 45 = .ok (.if_icmp .ge 14, 3) := by decide +kernel
theorem dX0_doTold_48 : decode cX0_doTold 48 = .ok (.aload_n 0, 1) := by decide +kernel
theorem dX0_doTold_49 : decode cX0_doTold 49 = .ok (.iload_n 3, 1) := by decide +kernel
theorem dX0_doTold_50 : decode cX0_doTold 50 = .ok (.bipush 100, 2) := by decide +kernel
theorem dX0_doTold_52 : decode cX0_doTold 52 = .ok (.isub, 1) := by decide +kernel
theorem dX0_doTold_53 : decode cX0_doTold 53 = .ok (.invokevirtual 127, 3) := by decide +kernel
theorem dX0_doTold_56 : decode cX0_doTold 56 = .ok (.goto 13, 3) := by decide +kernel
theorem dX0_doTold_59 : decode cX0_doTold 59 = .ok (.aload_n 0, 1) := by decide +kernel
theorem dX0_doTold_60 : decode cX0_doTold 60 = .ok (.iload_n 3, 1) := by decide +kernel
theorem dX0_doTold_61 : decode cX0_doTold 61 = .ok (.sipush 200, 3) := by decide +kernel
theorem dX0_doTold_64 : decode cX0_doTold 64 = .ok (.isub, 1) := by decide +kernel
theorem dX0_doTold_65 : decode cX0_doTold 65 = .ok (.invokevirtual 131, 3) := by decide +kernel
theorem dX0_doTold_68 : decode cX0_doTold 68 = .ok (.pop, 1) := by decide +kernel
theorem dX0_doTold_69 : decode cX0_doTold 69 = .ok (.return_, 1) := by decide +kernel
theorem dX0_pass_0 : decode cX0_pass 0 = .ok (.aload_n 0, 1) := by decide +kernel
theorem dX0_pass_1 : decode cX0_pass 1 = .ok (.invokevirtual 109, 3) := by decide +kernel
theorem dX0_pass_4 : decode cX0_pass 4 = .ok (.iload_n 1, 1) := by decide +kernel
theorem dX0_pass_5 : decode cX0_pass 5 = .ok (.iadd, 1) := by decide +kernel
theorem dX0_pass_6 : decode cX0_pass 6 = .ok (.istore_n 2, 1) := by decide +kernel
theorem dX0_pass_7 : decode cX0_pass 7 = .ok (.iconst 0, 1) := by decide +kernel
theorem dX0_pass_8 : decode cX0_pass 8 = .ok (.istore_n 3, 1) := by decide +kernel
theorem dX0_pass_9 : decode cX0_pass 9 = .ok (.aload_n 0, 1) := by decide +kernel
theorem dX0_pass_10 : decode cX0_pass 10 = .ok (.getfield 18, 3) := by decide +kernel
theorem dX0_pass_13 : decode cX0_pass 13 = .ok (.aload_n 0, 1) := by decide +kernel
theorem dX0_pass_14 : decode cX0_pass 14 = .ok (.invokevirtual 134, 3) := by decide +kernel
theorem dX0_pass_17 : decode cX0_pass 17 = .ok (.iconst 0, 1) := by decide +kernel
theorem dX0_pass_18 : decode cX0_pass 18 = .ok (.istore 4, 2) := by decide +kernel
theorem dX0_pass_20 : decode cX0_pass 20 = .ok (.iload 4, 2) := by decide +kernel
theorem dX0_pass_22 : decode cX0_pass 22 = .ok (.aload_n 0, 1) := by decide +kernel
theorem dX0_pass_23 : decode cX0_pass 23 = .ok (.getfield 18, 3) := by decide +kernel
theorem dX0_pass_26 : decode cX0_pass 26 = .ok (.invokevirtual 138, 3) := by decide +kernel
theorem dX0_pass_29 : decode cX0_pass 29 = .ok (.if_icmp .ge 43, 3) := by decide +kernel
theorem dX0_pass_32 : decode cX0_pass 32 = .ok (.aload_n 0, 1) := by decide +kernel
theorem dX0_pass_33 : decode cX0_pass 33 = .ok (.getfield 18, 3) := by decide +kernel
theorem dX0_pass_36 : decode cX0_pass 36 = .ok (.iload 4, 2) := by decide +kernel
theorem dX0_pass_38 : decode cX0_pass 38 = .ok (.invokevirtual 141, 3) := by decide +kernel
theorem dX0_pass_41 : decode cX0_pass 41 = .ok (.istore 5, 2) := by decide +kernel
theorem dX0_pass_43 : decode cX0_pass 43 = .ok (.aload_n 0, 1) := by decide +kernel
theorem dX0_pass_44 : decode cX0_pass 44 = .ok (.iload 5, 2) := by decide +kernel
theorem dX0_pass_46 : decode cX0_pass 46 = .ok (.iconst 2, 1) := by decide +kernel
theorem dX0_pass_47 : decode cX0_pass 47 = .ok (.invokevirtual 64, 3) := by decide +kernel
theorem dX0_pass_50 : decode cX0_pass 50 = .ok (.iload_n 2, 1) := by decide +kernel
theorem dX0_pass_51 : decode cX0_pass 51 = .ok (.if_icmp .ge 15, 3) := by decide +kernel
theorem dX0_pass_54 : decode cX0_pass 54 = .ok (.aload_n 0, 1) := by decide +kernel
theorem dX0_pass_55 : decode cX0_pass 55 = .ok (.iload 5, 2) := by decide +kernel
theorem dX0_pass_57 : decode cX0_pass 57 = .ok (.invokevirtual 144, 3) := by decide +kernel
theorem dX0_pass_60 : decode cX0_pass 60 = .ok (.ifCond .ne 6, 3) := by decide +kernel
theorem dX0_pass_63 : decode cX0_pass 63 = .ok (.iinc 3 1, 3) := by decide +kernel
theorem dX0_pass_66 : decode cX0_pass 66 = .ok (.iinc 4 1, 3) := by decide +kernel
theorem dX0_pass_69 : decode cX0_pass 69 = .ok (.goto (-49), 3) := by decide +kernel
theorem dX0_pass_72 : decode cX0_pass 72 = .ok (.iconst 0, 1) := by decide +kernel
theorem dX0_pass_73 : decode cX0_pass 73 = .ok (.istore 4, 2) := by decide +kernel
theorem dX0_pass_75 : decode cX0_pass 75 = .ok (.iload 4, 2) := by decide +kernel
theorem dX0_pass_77 : decode cX0_pass 77 = .ok (.aload_n 0, 1) := by decide +kernel
theorem dX0_pass_78 : decode cX0_pass 78 = .ok (.invokevirtual 67, 3) := by decide +kernel
theorem dX0_pass_81 : decode cX0_pass 81 = .ok (.if_icmp .ge 36, 3) := by decide +kernel
theorem dX0_pass_84 : decode cX0_pass 84 = .ok (.aload_n 0, 1) := by decide +kernel
theorem dX0_pass_85 : decode cX0_pass 85 = .ok (.iload 4, 2) := by decide +kernel
theorem dX0_pass_87 : decode cX0_pass 87 = .ok (.invokevirtual 77, 3) := by decide +kernel
theorem dX0_pass_90 : decode cX0_pass 90 = .ok (.ifCond .eq 21, 3) := by decide +kernel
theorem dX0_pass_93 : decode cX0_pass 93 = .ok (.aload_n 0, 1) := by decide +kernel
theorem dX0_pass_94 : decode cX0_pass 94 = .ok (.iload 4, 2) := by decide +kernel
theorem dX0_pass_96 : decode cX0_pass 96 = .ok (.invokevirtual 147, 3) := by decide +kernel
theorem dX0_pass_99 : decode cX0_pass 99 = .ok (.iload_n 2, 1) := by decide +kernel
theorem dX0_pass_100 : decode cX0_pass 100 = .ok (.if_icmp .ge 11, 3) := by decide +kernel
theorem dX0_pass_103 : decode cX0_pass 103 = .ok (.aload_n 0, 1) := by decide +kernel
theorem dX0_pass_104 : decode cX0_pass 104 = .ok (.iload 4, 2) := by decide +kernel
theorem dX0_pass_106 : decode cX0_pass 106 = .ok (.iconst 4, 1) := by decide +kernel
theorem dX0_pass_107 : decode cX0_pass 107 = .ok (.iconst 2, 1) := by decide +kernel
theorem dX0_pass_108 : decode cX0_pass 108 = .ok (.invokevirtual 105, 3) := by decide +kernel
theorem dX0_pass_111 : decode cX0_pass 111 = .ok (.iinc 4 1, 3) := by decide +kernel
theorem dX0_pass_114 : decode cX0_pass 114 = .ok (.goto (-39), 3) := by decide +kernel
theorem dX0_pass_117 : decode cX0_pass 117 = .ok (.aload_n 0, 1) := by decide +kernel
theorem dX0_pass_118 : decode cX0_pass 118 = .ok (.getfield 11, 3) := by decide +kernel
theorem dX0_pass_121 : decode cX0_pass 121 = .ok (.iconst 0, 1) := by decide +kernel
theorem dX0_pass_122 : decode cX0_pass 122 = .ok (.iload_n 2, 1) := by decide +kernel
theorem dX0_pass_123 : decode cX0_pass 123 = .ok (.iastore, 1) := by decide +kernel
theorem dX0_pass_124 : decode cX0_pass 124 = .ok (.iload_n 3, 1) := by decide +kernel
theorem dX0_pass_125 : decode cX0_pass 125 = .ok (.ireturn, 1) := by decide +kernel
theorem dX0_begins_0 : decode cX0_begins 0 = .ok (.aload_n 0, 1) := by decide +kernel
theorem dX0_begins_1 : decode cX0_begins 1 = .ok (.iload_n 1, 1) := by decide +kernel
theorem dX0_begins_2 : decode cX0_begins 2 = .ok (.iconst 2, 1) := by decide +kernel
theorem dX0_begins_3 : decode cX0_begins 3 = .ok (.invokevirtual 64, 3) := by decide +kernel
theorem dX0_begins_6 : decode cX0_begins 6 = .ok (.istore_n 2, 1) := by decide +kernel
theorem dX0_begins_7 : decode cX0_begins 7 = .ok (.aload_n 0, 1) := by decide +kernel
theorem dX0_begins_8 : decode cX0_begins 8 = .ok (.iload_n 1, 1) := by decide +kernel
theorem dX0_begins_9 : decode cX0_begins 9 = .ok (.iconst 0, 1) := by decide +kernel
theorem dX0_begins_10 : decode cX0_begins 10 = .ok (.invokevirtual 64, 3) := by decide +kernel
theorem dX0_begins_13 : decode cX0_begins 13 = .ok (.istore_n 3, 1) := by decide +kernel
theorem dX0_begins_14 : decode cX0_begins 14 = .ok (.aload_n 0, 1) := by decide +kernel
theorem dX0_begins_15 : decode cX0_begins 15 = .ok (.iload_n 1, 1) := by decide +kernel
theorem dX0_begins_16 : decode cX0_begins 16 = .ok (.iload_n 2, 1) := by decide +kernel
theorem dX0_begins_17 : decode cX0_begins 17 = .ok (.invokevirtual 150, 3) := by decide +kernel
theorem dX0_begins_20 : decode cX0_begins 20 = .ok (.istore 4, 2) := by decide +kernel
theorem dX0_begins_22 : decode cX0_begins 22 = .ok (.aload_n 0, 1) := by decide +kernel
theorem dX0_begins_23 : decode cX0_begins 23 = .ok (.getfield 18, 3) := by decide +kernel
theorem dX0_begins_26 : decode cX0_begins 26 = .ok (.aload_n 0, 1) := by decide +kernel
theorem dX0_begins_27 : decode cX0_begins 27 = .ok (.getfield 22, 3) := by decide +kernel
theorem dX0_begins_30 : decode cX0_begins 30 = .ok (.iload_n 3, 1) := by decide +kernel
theorem dX0_begins_31 : decode cX0_begins 31 = .ok (.iload 4, 2) := by decide +kernel
theorem dX0_begins_33 : decode cX0_begins 33 = .ok (.iload_n 2, 1) := by decide +kernel
theorem dX0_begins_34 : decode cX0_begins 34 = .ok (.aload_n 0, 1) := by decide +kernel
theorem dX0_begins_35 : decode cX0_begins 35 = .ok (.iload_n 1, 1) := by decide +kernel
theorem dX0_begins_36 : decode cX0_begins 36 = .ok (.invokevirtual 147, 3) := by decide +kernel
theorem dX0_begins_39 : decode cX0_begins 39 = .ok (.invokevirtual 153, 3) := by decide +kernel
theorem dX0_begins_42 : decode cX0_begins 42 = .ok (.istore 5, 2) := by decide +kernel
theorem dX0_begins_44 : decode cX0_begins 44 = .ok (.iload 5, 2) := by decide +kernel
theorem dX0_begins_46 : decode cX0_begins 46 = .ok (.iconst (-1), 1) := by decide +kernel
theorem dX0_begins_47 : decode cX0_begins 47 = .ok (.if_icmp .ne 12, 3) := by decide +kernel
theorem dX0_begins_50 : decode cX0_begins 50 = .ok (.aload_n 0, 1) := by decide +kernel
theorem dX0_begins_51 : decode cX0_begins 51 = .ok (.iload_n 1, 1) := by decide +kernel
theorem dX0_begins_52 : decode cX0_begins 52 = .ok (.iconst 4, 1) := by decide +kernel
theorem dX0_begins_53 : decode cX0_begins 53 = .ok (.iconst 3, 1) := by decide +kernel
theorem dX0_begins_54 : decode cX0_begins 54 = .ok (.invokevirtual 105, 3) := by decide +kernel
theorem dX0_begins_57 : decode cX0_begins 57 = .ok (.iconst 0, 1) := by decide +kernel
theorem dX0_begins_58 : decode cX0_begins 58 = .ok (.ireturn, 1) := by decide +kernel
theorem dX0_begins_59 : decode cX0_begins 59 = .ok (.aload_n 0, 1) := by decide +kernel
theorem dX0_begins_60 : decode cX0_begins 60 = .ok (.iload_n 1, 1) := by decide +kernel
theorem dX0_begins_61 : decode cX0_begins 61 = .ok (.iconst 4, 1) := by decide +kernel
theorem dX0_begins_62 : decode cX0_begins 62 = .ok (.iconst 1, 1) := by decide +kernel
theorem dX0_begins_63 : decode cX0_begins 63 = .ok (.invokevirtual 105, 3) := by decide +kernel
theorem dX0_begins_66 : decode cX0_begins 66 = .ok (.aload_n 0, 1) := by decide +kernel
theorem dX0_begins_67 : decode cX0_begins 67 = .ok (.iload_n 1, 1) := by decide +kernel
theorem dX0_begins_68 : decode cX0_begins 68 = .ok (.iconst 5, 1) := by decide +kernel
theorem dX0_begins_69 : decode cX0_begins 69 = .ok (.iload 4, 2) := by decide +kernel
theorem dX0_begins_71 : decode cX0_begins 71 = .ok (.invokevirtual 105, 3) := by decide +kernel
theorem dX0_begins_74 : decode cX0_begins 74 = .ok (.aload_n 0, 1) := by decide +kernel
theorem dX0_begins_75 : decode cX0_begins 75 = .ok (.iload_n 1, 1) := by decide +kernel
theorem dX0_begins_76 : decode cX0_begins 76 = .ok (.bipush 6, 2) := by decide +kernel
theorem dX0_begins_78 : decode cX0_begins 78 = .ok (.iload 5, 2) := by decide +kernel
theorem dX0_begins_80 : decode cX0_begins 80 = .ok (.invokevirtual 105, 3) := by decide +kernel
theorem dX0_begins_83 : decode cX0_begins 83 = .ok (.aload_n 0, 1) := by decide +kernel
theorem dX0_begins_84 : decode cX0_begins 84 = .ok (.iload_n 3, 1) := by decide +kernel
theorem dX0_begins_85 : decode cX0_begins 85 = .ok (.invokevirtual 84, 3) := by decide +kernel
theorem dX0_begins_88 : decode cX0_begins 88 = .ok (.iconst (-1), 1) := by decide +kernel
theorem dX0_begins_89 : decode cX0_begins 89 = .ok (.if_icmp .ne 17, 3) := by decide +kernel
theorem dX0_begins_92 : decode cX0_begins 92 = .ok (.aload_n 0, 1) := by decide +kernel
theorem dX0_begins_93 : decode cX0_begins 93 = .ok (.iload 4, 2) := by decide +kernel
theorem dX0_begins_95 : decode cX0_begins 95 = .ok (.invokevirtual 84, 3) := by decide +kernel
theorem dX0_begins_98 : decode cX0_begins 98 = .ok (.iconst (-1), 1) := by decide +kernel
theorem dX0_begins_99 : decode cX0_begins 99 = .ok (.if_icmp .ne 7, 3) := by decide +kernel
theorem dX0_begins_102 : decode cX0_begins 102 = .ok (.iconst 1, 1) := by decide +kernel
theorem dX0_begins_103 : decode cX0_begins 103 = .ok (.goto 4, 3) := by decide +kernel
theorem dX0_begins_106 : decode cX0_begins 106 = .ok (.iconst 0, 1) := by decide +kernel
theorem dX0_begins_107 : decode cX0_begins 107 = .ok (.istore 6, 2) := by decide +kernel
theorem dX0_begins_109 : decode cX0_begins 109 = .ok (.iload 4, 2) := by decide +kernel
theorem dX0_begins_111 : decode cX0_begins 111 = .ok (.aload_n 0, 1) := by decide +kernel
theorem dX0_begins_112 : decode cX0_begins 112 = .ok (.iload_n 1, 1) := by decide +kernel
theorem dX0_begins_113 : decode cX0_begins 113 = .ok (.iconst 1, 1) := by decide +kernel
theorem dX0_begins_114 : decode cX0_begins 114 = .ok (.invokevirtual 64, 3) := by decide +kernel
theorem dX0_begins_117 : decode cX0_begins 117 = .ok (.if_icmp .eq 30, 3) := by decide +kernel
theorem dX0_begins_120 : decode cX0_begins 120 = .ok (.iload 6, 2) := by decide +kernel
theorem dX0_begins_122 : decode cX0_begins 122 = .ok (.ifCond .eq 25, 3) := by decide +kernel
theorem dX0_begins_125 : decode cX0_begins 125 = .ok (.aload_n 0, 1) := by decide +kernel
theorem dX0_begins_126 : decode cX0_begins 126 = .ok (.getfield 22, 3) := by decide +kernel
theorem dX0_begins_129 : decode cX0_begins 129 = .ok (.iload_n 3, 1) := by decide +kernel
theorem dX0_begins_130 : decode cX0_begins 130 = .ok (.iload 4, 2) := by decide +kernel
theorem dX0_begins_132 : decode cX0_begins 132 = .ok (.iload_n 2, 1) := by decide +kernel
theorem dX0_begins_133 : decode cX0_begins 133 = .ok (.iload_n 1, 1) := by decide +kernel
theorem dX0_begins_134 : decode cX0_begins 134 = .ok (.invokevirtual 157, 3) := by decide +kernel
theorem dX0_begins_137 : decode cX0_begins 137 = .ok (.ifCond .eq 10, 3) := by decide +kernel
theorem dX0_begins_140 : decode cX0_begins 140 = .ok (.aload_n 0, 1) := by decide +kernel
theorem dX0_begins_141 : decode cX0_begins 141 = .ok (.iload_n 3, 1) := by decide +kernel
theorem dX0_begins_142 : decode cX0_begins 142 = .ok (.iload 4, 2) := by decide +kernel
theorem dX0_begins_144 : decode cX0_begins 144 = .ok (.invokevirtual 161, 3) := by decide +kernel
theorem dX0_begins_147 : decode cX0_begins 147 = .ok (.iconst 1, 1) := by decide +kernel
theorem dX0_begins_148 : decode cX0_begins 148 = .ok (.ireturn, 1) := by decide +kernel
theorem dX1_init_0 : decode cX1_init 0 = .ok (.aload_n 0, 1) := by decide +kernel
theorem dX1_init_1 : decode cX1_init 1 = .ok (.invokespecial 3, 3) := by decide +kernel
theorem dX1_init_4 : decode cX1_init 4 = .ok (.aload_n 0, 1) := by decide +kernel
theorem dX1_init_5 : decode cX1_init 5 = .ok (.bipush 10, 2) := by decide +kernel
theorem dX1_init_7 : decode cX1_init 7 = .ok (.newarray .int, 2) := by decide +kernel
theorem dX1_init_9 : decode cX1_init 9 = .ok (.putfield 9, 3) := by decide +kernel
theorem dX1_init_12 : decode cX1_init 12 = .ok (.aload_n 0, 1) := by decide +kernel
theorem dX1_init_13 : decode cX1_init 13 = .ok (.iconst 0, 1) := by decide +kernel
theorem dX1_init_14 : decode cX1_init 14 = .ok (.putfield 15, 3) := by decide +kernel
theorem dX1_init_17 : decode cX1_init 17 = .ok (.aload_n 0, 1) := by decide +kernel
theorem dX1_init_18 : decode cX1_init 18 = .ok (.bipush 8, 2) := by decide +kernel
theorem dX1_init_20 : decode cX1_init 20 = .ok (.newarray .int, 2) := by decide +kernel
theorem dX1_init_22 : decode cX1_init 22 = .ok (.putfield 19, 3) := by decide +kernel
theorem dX1_init_25 : decode cX1_init 25 = .ok (.aload_n 0, 1) := by decide +kernel
theorem dX1_init_26 : decode cX1_init 26 = .ok (.iconst 3, 1) := by decide +kernel
theorem dX1_init_27 : decode cX1_init 27 = .ok (.newarray .int, 2) := by decide +kernel
theorem dX1_init_29 : decode cX1_init 29 = .ok (.putfield 22, 3) := by decide +kernel
theorem dX1_init_32 : decode cX1_init 32 = .ok (.aload_n 0, 1) := by decide +kernel
theorem dX1_init_33 : decode cX1_init 33 = .ok (.bipush 8, 2) := by decide +kernel
theorem dX1_init_35 : decode cX1_init 35 = .ok (.newarray .int, 2) := by decide +kernel
theorem dX1_init_37 : decode cX1_init 37 = .ok (.putfield 25, 3) := by decide +kernel
theorem dX1_init_40 : decode cX1_init 40 = .ok (.aload_n 0, 1) := by decide +kernel
theorem dX1_init_41 : decode cX1_init 41 = .ok (.iconst 3, 1) := by decide +kernel
theorem dX1_init_42 : decode cX1_init 42 = .ok (.newarray .int, 2) := by decide +kernel
theorem dX1_init_44 : decode cX1_init 44 = .ok (.putfield 28, 3) := by decide +kernel
theorem dX1_init_47 : decode cX1_init 47 = .ok (.return_, 1) := by decide +kernel
theorem dX1_many_0 : decode cX1_many 0 = .ok (.aload_n 0, 1) := by decide +kernel
theorem dX1_many_1 : decode cX1_many 1 = .ok (.getfield 15, 3) := by decide +kernel
theorem dX1_many_4 : decode cX1_many 4 = .ok (.ireturn, 1) := by decide +kernel
theorem dX1_callAt_0 : decode cX1_callAt 0 = .ok (.iload_n 1, 1) := by decide +kernel
theorem dX1_callAt_1 : decode cX1_callAt 1 = .ok (.ifCond .lt 26, 3) := by decide +kernel
theorem dX1_callAt_4 : decode cX1_callAt 4 = .ok (.iload_n 1, 1) := by decide +kernel
theorem dX1_callAt_5 : decode cX1_callAt 5 = .ok (.aload_n 0, 1) := by decide +kernel
theorem dX1_callAt_6 : decode cX1_callAt 6 = .ok (.getfield 15, 3) := by decide +kernel
theorem dX1_callAt_9 : decode cX1_callAt 9 = .ok (.if_icmp .ge 18, 3) := by decide +kernel
theorem dX1_callAt_12 : decode cX1_callAt 12 = .ok (.iload_n 1, 1) := by decide +kernel
theorem dX1_callAt_13 : decode cX1_callAt 13 = .ok (.bipush 10, 2) := by decide +kernel
theorem dX1_callAt_15 : decode cX1_callAt 15 = .ok (.if_icmp .ge 12, 3) := by decide +kernel
theorem dX1_callAt_18 : decode cX1_callAt 18 = .ok (.aload_n 0, 1) := by decide +kernel
theorem dX1_callAt_19 : decode cX1_callAt 19 = .ok (.getfield 9, 3) := by decide +kernel
theorem dX1_callAt_22 : decode cX1_callAt 22 = .ok (.iload_n 1, 1) := by decide +kernel
theorem dX1_callAt_23 : decode cX1_callAt 23 = .ok (.iaload, 1) := by decide +kernel
theorem dX1_callAt_24 : decode cX1_callAt 24 = .ok (.goto 4, 3) := by decide +kernel
theorem dX1_callAt_27 : decode cX1_callAt 27 = .ok (.iconst (-1), 1) := by decide +kernel
theorem dX1_callAt_28 : decode cX1_callAt 28 = .ok (.ireturn, 1) := by decide +kernel
theorem dX1_start_0 : decode cX1_start 0 = .ok (.aload_n 0, 1) := by decide +kernel
theorem dX1_start_1 : decode cX1_start 1 = .ok (.iconst 0, 1) := by decide +kernel
theorem dX1_start_2 : decode cX1_start 2 = .ok (.putfield 15, 3) := by decide +kernel
theorem dX1_start_5 : decode cX1_start 5 = .ok (.aload_n 0, 1) := by decide +kernel
theorem dX1_start_6 : decode cX1_start 6 = .ok (.getfield 19, 3) := by decide +kernel
theorem dX1_start_9 : decode cX1_start 9 = .ok (.iconst 0, 1) := by decide +kernel
theorem dX1_start_10 : decode cX1_start 10 = .ok (.invokestatic 31, 3) := by decide +kernel
theorem dX1_start_13 : decode cX1_start 13 = .ok (.aload_n 0, 1) := by decide +kernel
theorem dX1_start_14 : decode cX1_start 14 = .ok (.getfield 22, 3) := by decide +kernel
theorem dX1_start_17 : decode cX1_start 17 = .ok (.iconst 0, 1) := by decide +kernel
theorem dX1_start_18 : decode cX1_start 18 = .ok (.invokestatic 31, 3) := by decide +kernel
theorem dX1_start_21 : decode cX1_start 21 = .ok (.iconst 0, 1) := by decide +kernel
theorem dX1_start_22 : decode cX1_start 22 = .ok (.istore_n 2, 1) := by decide +kernel
theorem dX1_start_23 : decode cX1_start 23 = .ok (.iload_n 2, 1) := by decide +kernel
theorem dX1_start_24 : decode cX1_start 24 = .ok (.aload_n 1, 1) := by decide +kernel
theorem dX1_start_25 : decode cX1_start 25 = .ok (.invokevirtual 37, 3) := by decide +kernel
theorem dX1_start_28 : decode cX1_start 28 = .ok (.if_icmp .ge 62, 3) := by decide +kernel
theorem dX1_start_31 : decode cX1_start 31 = .ok (.aload_n 1, 1) := by decide +kernel
theorem dX1_start_32 : decode cX1_start 32 = .ok (.iload_n 2, 1) := by decide +kernel
theorem dX1_start_33 : decode cX1_start 33 = .ok (.invokevirtual 43, 3) := by decide +kernel
theorem dX1_start_36 : decode cX1_start 36 = .ok (.ifCond .eq 12, 3) := by decide +kernel
theorem dX1_start_39 : decode cX1_start 39 = .ok (.aload_n 0, 1) := by decide +kernel
theorem dX1_start_40 : decode cX1_start 40 = .ok (.aload_n 1, 1) := by decide +kernel
theorem dX1_start_41 : decode cX1_start 41 = .ok (.iload_n 2, 1) := by decide +kernel
theorem dX1_start_42 : decode cX1_start 42 = .ok (.invokevirtual 47, 3) := by decide +kernel
theorem dX1_start_45 : decode cX1_start 45 = .ok (.goto 39, 3) := by decide +kernel
theorem dX1_start_48 : decode cX1_start 48 = .ok (.aload_n 1, 1) := by decide +kernel
theorem dX1_start_49 : decode cX1_start 49 = .ok (.iload_n 2, 1) := by decide +kernel
theorem dX1_start_50 : decode cX1_start 50 = .ok (.invokevirtual 51, 3) := by decide +kernel
theorem dX1_start_53 : decode cX1_start 53 = .ok (.ifCond .eq 31, 3) := by decide +kernel
theorem dX1_start_56 : decode cX1_start 56 = .ok (.aload_n 0, 1) := by decide +kernel
theorem dX1_start_57 : decode cX1_start 57 = .ok (.aload_n 1, 1) := by decide +kernel
theorem dX1_start_58 : decode cX1_start 58 = .ok (.iload_n 2, 1) := by decide +kernel
theorem dX1_start_59 : decode cX1_start 59 = .ok (.iconst 0, 1) := by decide +kernel
theorem dX1_start_60 : decode cX1_start 60 = .ok (.invokevirtual 54, 3) := by decide +kernel
theorem dX1_start_63 : decode cX1_start 63 = .ok (.aload_n 1, 1) := by decide +kernel
theorem dX1_start_64 : decode cX1_start 64 = .ok (.iload_n 2, 1) := by decide +kernel
theorem dX1_start_65 : decode cX1_start 65 = .ok (.iconst 5, 1) := by decide +kernel
theorem dX1_start_66 : decode cX1_start 66 = .ok (.invokevirtual 54, 3) := by decide +kernel
theorem dX1_start_69 : decode cX1_start 69 = .ok (.aload_n 1, 1) := by decide +kernel
theorem dX1_start_70 : decode cX1_start 70 = .ok (.iload_n 2, 1) := by decide +kernel
theorem dX1_start_71 : decode cX1_start 71 = .ok (.bipush 6, 2) := by decide +kernel
theorem dX1_start_73 : decode cX1_start 73 = .ok (.invokevirtual 54, 3) := by decide +kernel
theorem dX1_start_76 : decode cX1_start 76 = .ok (.aload_n 1, 1) := by decide +kernel
theorem dX1_start_77 : decode cX1_start 77 = .ok (.iload_n 2, 1) := by decide +kernel
theorem dX1_start_78 : decode cX1_start 78 = .ok (.invokevirtual 58, 3) := by decide +kernel
theorem dX1_start_81 : decode cX1_start 81 = .ok (.invokevirtual 62, 3) := by decide +kernel
theorem dX1_start_84 : decode cX1_start 84 = .ok (.iinc 2 1, 3) := by decide +kernel
theorem dX1_start_87 : decode cX1_start 87 = .ok (.goto (-64), 3) := by decide +kernel
theorem dX1_start_90 : decode cX1_start 90 = .ok (.iconst 0, 1) := by decide +kernel
theorem dX1_start_91 : decode cX1_start 91 = .ok (.istore_n 2, 1) := by decide +kernel
theorem dX1_start_92 : decode cX1_start 92 = .ok (.iload_n 2, 1) := by decide +kernel
theorem dX1_start_93 : decode cX1_start 93 = .ok (.bipush 8, 2) := by decide +kernel
theorem dX1_start_95 : decode cX1_start 95 = .ok (.if_icmp .ge 25, 3) := by decide +kernel
theorem dX1_start_98 : decode cX1_start 98 = .ok (.aload_n 1, 1) := by decide +kernel
theorem dX1_start_99 : decode cX1_start 99 = .ok (.iload_n 2, 1) := by decide +kernel
theorem dX1_start_100 : decode cX1_start 100 = .ok (.invokevirtual 66, 3) := by decide +kernel
theorem dX1_start_103 : decode cX1_start 103 = .ok (.ifCond .eq 11, 3) := by decide +kernel
theorem dX1_start_106 : decode cX1_start 106 = .ok (.aload_n 0, 1) := by decide +kernel
theorem dX1_start_107 : decode cX1_start 107 = .ok (.getfield 19, 3) := by decide +kernel
theorem dX1_start_110 : decode cX1_start 110 = .ok (.iload_n 2, 1) := by decide +kernel
theorem dX1_start_111 : decode cX1_start 111 = .ok (.ldc 69, 2) := by decide +kernel
theorem dX1_start_113 : decode cX1_start 113 = .ok (.iastore, 1) := by decide +kernel
theorem dX1_start_114 : decode cX1_start 114 = .ok (.iinc 2 1, 3) := by decide +kernel
theorem dX1_start_117 : decode cX1_start 117 = .ok (.goto (-25), 3) := by decide +kernel
theorem dX1_start_120 : decode cX1_start 120 = .ok (.aload_n 0, 1) := by decide +kernel
theorem dX1_start_121 : decode cX1_start 121 = .ok (.getfield 19, 3) := by decide +kernel
theorem dX1_start_124 : decode cX1_start 124 = .ok (.iconst 0, 1) := by decide +kernel
theorem dX1_start_125 : decode cX1_start 125 = .ok (.aload_n 0, 1) := by decide +kernel
theorem dX1_start_126 : decode cX1_start 126 = .ok (.getfield 25, 3) := by decide +kernel
theorem dX1_start_129 : decode cX1_start 129 = .ok (.iconst 0, 1) := by decide +kernel
theorem dX1_start_130 : decode cX1_start 130 = .ok (.bipush 8, 2) := by decide +kernel
theorem dX1_start_132 : decode cX1_start 132 = .ok (.invokestatic 70, 3) := by decide +kernel
theorem dX1_start_135 : decode cX1_start 135 = .ok (.aload_n 0, 1) := by decide +kernel
theorem dX1_start_136 : decode cX1_start 136 = .ok (.getfield 22, 3) := by decide +kernel
theorem dX1_start_139 : decode cX1_start 139 = .ok (.iconst 0, 1) := by decide +kernel
theorem dX1_start_140 : decode cX1_start 140 = .ok (.aload_n 0, 1) := by decide +kernel
theorem dX1_start_141 : decode cX1_start 141 = .ok (.getfield 28, 3) := by decide +kernel
theorem dX1_start_144 : decode cX1_start 144 = .ok (.iconst 0, 1) := by decide +kernel
theorem dX1_start_145 : decode cX1_start 145 = .ok (.iconst 3, 1) := by decide +kernel
theorem dX1_start_146 : decode cX1_start 146 = .ok (.invokestatic 70, 3) := by decide +kernel
theorem dX1_start_149 : decode cX1_start 149 = .ok (.return_, 1) := by decide +kernel
theorem dX1_rewind_0 : decode cX1_rewind 0 = .ok (.aload_n 0, 1) := by decide +kernel
theorem dX1_rewind_1 : decode cX1_rewind 1 = .ok (.getfield 25, 3) := by decide +kernel
theorem dX1_rewind_4 : decode cX1_rewind 4 = .ok (.iconst 0, 1) := by decide +kernel
theorem dX1_rewind_5 : decode cX1_rewind 5 = .ok (.aload_n 0, 1) := by decide +kernel
theorem dX1_rewind_6 : decode cX1_rewind 6 = .ok (.getfield 19, 3) := by decide +kernel
theorem dX1_rewind_9 : decode cX1_rewind 9 = .ok (.iconst 0, 1) := by decide +kernel
theorem dX1_rewind_10 : decode cX1_rewind 10 = .ok (.bipush 8, 2) := by decide +kernel
theorem dX1_rewind_12 : decode cX1_rewind 12 = .ok (.invokestatic 70, 3) := by decide +kernel
theorem dX1_rewind_15 : decode cX1_rewind 15 = .ok (.aload_n 0, 1) := by decide +kernel
theorem dX1_rewind_16 : decode cX1_rewind 16 = .ok (.getfield 28, 3) := by decide +kernel
theorem dX1_rewind_19 : decode cX1_rewind 19 = .ok (.iconst 0, 1) := by decide +kernel
theorem dX1_rewind_20 : decode cX1_rewind 20 = .ok (.aload_n 0, 1) := by decide +kernel
theorem dX1_rewind_21 : decode cX1_rewind 21 = .ok (.getfield 22, 3) := by decide +kernel
theorem dX1_rewind_24 : decode cX1_rewind 24 = .ok (.iconst 0, 1) := by decide +kernel
theorem dX1_rewind_25 : decode cX1_rewind 25 = .ok (.iconst 3, 1) := by decide +kernel
theorem dX1_rewind_26 : decode cX1_rewind 26 = .ok (.invokestatic 70, 3) := by decide +kernel
theorem dX1_rewind_29 : decode cX1_rewind 29 = .ok (.return_, 1) := by decide +kernel
theorem dX1_putInOrder_0 : decode cX1_putInOrder 0 = .ok (.aload_n 0, 1) := by decide +kernel
theorem dX1_putInOrder_1 : decode cX1_putInOrder 1 = .ok (.getfield 15, 3) := by decide +kernel
theorem dX1_putInOrder_4 : decode cX1_putInOrder 4 = .ok (.ifCond .lt 12, 3) := by decide +kernel
theorem dX1_putInOrder_7 : decode cX1_putInOrder 7 = .ok (.aload_n 0, 1) := by decide +kernel
theorem dX1_putInOrder_8 : decode cX1_putInOrder 8 = .ok (.getfield 15, 3) := by decide +kernel
theorem dX1_putInOrder_11 : decode cX1_putInOrder 11 = .ok (.bipush 10, 2) := by decide +kernel
theorem dX1_putInOrder_13 : decode cX1_putInOrder 13 = .ok (.if_icmp .lt 4, 3) := by decide +kernel
theorem dX1_putInOrder_16 : decode cX1_putInOrder 16 = .ok (.return_, 1) := by decide +kernel
theorem dX1_putInOrder_17 : decode cX1_putInOrder 17 = .ok (.aload_n 0, 1) := by decide +kernel
theorem dX1_putInOrder_18 : decode cX1_putInOrder 18 = .ok (.getfield 15, 3) := by decide +kernel
theorem dX1_putInOrder_21 : decode cX1_putInOrder 21 = .ok (.istore_n 3, 1) := by decide +kernel
theorem dX1_putInOrder_22 : decode cX1_putInOrder 22 = .ok (.iload_n 3, 1) := by decide +kernel
theorem dX1_putInOrder_23 : decode cX1_putInOrder 23 = .ok (.ifCond .le 45, 3) := by decide +kernel
theorem dX1_putInOrder_26 : decode cX1_putInOrder 26 = .ok (.aload_n 1, 1) := by decide +kernel
theorem dX1_putInOrder_27 : decode cX1_putInOrder 27 = .ok (.aload_n 0, 1) := by decide +kernel
theorem dX1_putInOrder_28 : decode cX1_putInOrder 28 = .ok (.getfield 9, 3) := by decide +kernel
theorem dX1_putInOrder_31 : decode cX1_putInOrder 31 = .ok (.iload_n 3, 1) := by decide +kernel
theorem dX1_putInOrder_32 : decode cX1_putInOrder 32 = .ok (.iconst 1, 1) := by decide +kernel
theorem dX1_putInOrder_33 : decode cX1_putInOrder 33 = .ok (.isub, 1) := by decide +kernel
theorem dX1_putInOrder_34 : decode cX1_putInOrder 34 = .ok (.iaload, 1) := by decide +kernel
theorem dX1_putInOrder_35 : decode cX1_putInOrder 35 = .ok (.iconst 2, 1) := by decide +kernel
theorem dX1_putInOrder_36 : decode cX1_putInOrder 36 = .ok (.invokevirtual 54, 3) := by decide +kernel
theorem dX1_putInOrder_39 : decode cX1_putInOrder 39 = .ok (.aload_n 1, 1) := by decide +kernel
theorem dX1_putInOrder_40 : decode cX1_putInOrder 40 = .ok (.iload_n 2, 1) := by decide +kernel
theorem dX1_putInOrder_41 : decode cX1_putInOrder 41 = .ok (.iconst 2, 1) := by decide +kernel
theorem dX1_putInOrder_42 : decode cX1_putInOrder 42 = .ok (.invokevirtual 54, 3) := by decide +kernel
theorem dX1_putInOrder_45 : decode cX1_putInOrder 45 = .ok (.if_icmp .le 23, 3) := by decide +kernel
theorem dX1_putInOrder_48 : decode cX1_putInOrder 48 = .ok (.aload_n 0, 1) := by decide +kernel
theorem dX1_putInOrder_49 : decode cX1_putInOrder 49 = .ok (.getfield 9, 3) := by decide +kernel
theorem dX1_putInOrder_52 : decode cX1_putInOrder 52 = .ok (.iload_n 3, 1) := by decide +kernel
theorem dX1_putInOrder_53 : decode cX1_putInOrder 53 = .ok (.aload_n 0, 1) := by decide +kernel
theorem dX1_putInOrder_54 : decode cX1_putInOrder 54 = .ok (.getfield 9, 3) := by decide +kernel
theorem dX1_putInOrder_57 : decode cX1_putInOrder 57 = .ok (.iload_n 3, 1) := by decide +kernel
theorem dX1_putInOrder_58 : decode cX1_putInOrder 58 = .ok (.iconst 1, 1) := by decide +kernel
theorem dX1_putInOrder_59 : decode cX1_putInOrder 59 = .ok (.isub, 1) := by decide +kernel
theorem dX1_putInOrder_60 : decode cX1_putInOrder 60 = .ok (.iaload, 1) := by decide +kernel
theorem dX1_putInOrder_61 : decode cX1_putInOrder 61 = .ok (.iastore, 1) := by decide +kernel
theorem dX1_putInOrder_62 : decode cX1_putInOrder 62 = .ok (.iinc 3 (-1), 3) := by decide +kernel
theorem dX1_putInOrder_65 : decode cX1_putInOrder 65 = .ok (.goto (-43), 3) := by decide +kernel
theorem dX1_putInOrder_68 : decode cX1_putInOrder 68 = .ok (.aload_n 0, 1) := by decide +kernel
theorem dX1_putInOrder_69 : decode cX1_putInOrder 69 = .ok (.getfield 9, 3) := by decide +kernel
theorem dX1_putInOrder_72 : decode cX1_putInOrder 72 = .ok (.iload_n 3, 1) := by decide +kernel
theorem dX1_putInOrder_73 : decode cX1_putInOrder 73 = .ok (.iload_n 2, 1) := by decide +kernel
theorem dX1_putInOrder_74 : decode cX1_putInOrder 74 = .ok (.iastore, 1) := by decide +kernel
theorem dX1_putInOrder_75 : decode cX1_putInOrder 75 = .ok (.aload_n 0, 1) := by decide +kernel
theorem dX1_putInOrder_76 : decode cX1_putInOrder 76 = .ok (.dup, 1) := by decide +kernel
theorem dX1_putInOrder_77 : decode cX1_putInOrder 77 = .ok (.getfield 15, 3) := by decide +kernel
theorem dX1_putInOrder_80 : decode cX1_putInOrder 80 = .ok (.iconst 1, 1) := by decide +kernel
theorem dX1_putInOrder_81 : decode cX1_putInOrder 81 = .ok (.iadd, 1) := by decide +kernel
theorem dX1_putInOrder_82 : decode cX1_putInOrder 82 = .ok (.putfield 15, 3) := by decide +kernel
theorem dX1_putInOrder_85 : decode cX1_putInOrder 85 = .ok (.return_, 1) := by decide +kernel
theorem dX1_hold_0 : decode cX1_hold 0 = .ok (.iload_n 1, 1) := by decide +kernel
theorem dX1_hold_1 : decode cX1_hold 1 = .ok (.invokestatic 76, 3) := by decide +kernel
theorem dX1_hold_4 : decode cX1_hold 4 = .ok (.ifCond .eq 43, 3) := by decide +kernel
theorem dX1_hold_7 : decode cX1_hold 7 = .ok (.iload_n 2, 1) := by decide +kernel
theorem dX1_hold_8 : decode cX1_hold 8 = .ok (.invokestatic 76, 3) := by decide +kernel
theorem dX1_hold_11 : decode cX1_hold 11 = .ok (.ifCond .eq 36, 3) := by decide +kernel
theorem dX1_hold_14 : decode cX1_hold 14 = .ok (.iload_n 3, 1) := by decide +kernel
theorem dX1_hold_15 : decode cX1_hold 15 = .ok (.ifCond .lt 32, 3) := by decide +kernel
theorem dX1_hold_18 : decode cX1_hold 18 = .ok (.iload_n 3, 1) := by decide +kernel
theorem dX1_hold_19 : decode cX1_hold 19 = .ok (.iconst 3, 1) := by decide +kernel
theorem dX1_hold_20 : decode cX1_hold 20 = .ok (.if_icmp .ge 27, 3) := by decide +kernel
theorem dX1_hold_23 : decode cX1_hold 23 = .ok (.aload_n 0, 1) := by decide +kernel
theorem dX1_hold_24 : decode cX1_hold 24 = .ok (.getfield 19, 3) := by decide +kernel
theorem dX1_hold_27 : decode cX1_hold 27 = .ok (.iload_n 1, 1) := by decide +kernel
theorem dX1_hold_28 : decode cX1_hold 28 = .ok (.iload 4, 2) := by decide +kernel
theorem dX1_hold_30 : decode cX1_hold 30 = .ok (.iastore, 1) := by decide +kernel
theorem dX1_hold_31 : decode cX1_hold 31 = .ok (.aload_n 0, 1) := by decide +kernel
theorem dX1_hold_32 : decode cX1_hold 32 = .ok (.getfield 19, 3) := by decide +kernel
theorem dX1_hold_35 : decode cX1_hold 35 = .ok (.iload_n 2, 1) := by decide +kernel
theorem dX1_hold_36 : decode cX1_hold 36 = .ok (.iload 4, 2) := by decide +kernel
theorem dX1_hold_38 : decode cX1_hold 38 = .ok (.iastore, 1) := by decide +kernel
theorem dX1_hold_39 : decode cX1_hold 39 = .ok (.aload_n 0, 1) := by decide +kernel
theorem dX1_hold_40 : decode cX1_hold 40 = .ok (.getfield 22, 3) := by decide +kernel
theorem dX1_hold_43 : decode cX1_hold 43 = .ok (.iload_n 3, 1) := by decide +kernel
theorem dX1_hold_44 : decode cX1_hold 44 = .ok (.iload 4, 2) := by decide +kernel
theorem dX1_hold_46 : decode cX1_hold 46 = .ok (.iastore, 1) := by decide +kernel
theorem dX1_hold_47 : decode cX1_hold 47 = .ok (.return_, 1) := by decide +kernel
theorem dX1_isLine_0 : decode cX1_isLine 0 = .ok (.iload_n 0, 1) := by decide +kernel
theorem dX1_isLine_1 : decode cX1_isLine 1 = .ok (.ifCond .lt 13, 3) := by decide +kernel
theorem dX1_isLine_4 : decode cX1_isLine 4 = .ok (.iload_n 0, 1) := by decide +kernel
theorem dX1_isLine_5 : decode cX1_isLine 5 = .ok (.bipush 8, 2) := by decide +kernel
theorem dX1_isLine_7 : decode cX1_isLine 7 = .ok (.if_icmp .ge 7, 3) := by decide +kernel
theorem dX1_isLine_10 : decode cX1_isLine 10 = .ok (.iconst 1, 1) := by decide +kernel
theorem dX1_isLine_11 : decode cX1_isLine 11 = .ok (.goto 4, 3) := by decide +kernel
theorem dX1_isLine_14 : decode cX1_isLine 14 = .ok (.iconst 0, 1) := by decide +kernel
theorem dX1_isLine_15 : decode cX1_isLine 15 = .ok (.ireturn, 1) := by decide +kernel
theorem dX1_areFree_0 : decode cX1_areFree 0 = .ok (.iload_n 1, 1) := by decide +kernel
theorem dX1_areFree_1 : decode cX1_areFree 1 = .ok (.invokestatic 76, 3) := by decide +kernel
theorem dX1_areFree_4 : decode cX1_areFree 4 = .ok (.ifCond .eq 34, 3) := by decide +kernel
theorem dX1_areFree_7 : decode cX1_areFree 7 = .ok (.iload_n 2, 1) := by decide +kernel
theorem dX1_areFree_8 : decode cX1_areFree 8 = .ok (.invokestatic 76, 3) := by decide +kernel
theorem dX1_areFree_11 : decode cX1_areFree 11 = .ok (.ifCond .eq 27, 3) := by decide +kernel
theorem dX1_areFree_14 : decode cX1_areFree 14 = .ok (.aload_n 0, 1) := by decide +kernel
theorem dX1_areFree_15 : decode cX1_areFree 15 = .ok (.getfield 19, 3) := by decide +kernel
theorem dX1_areFree_18 : decode cX1_areFree 18 = .ok (.iload_n 1, 1) := by decide +kernel
theorem dX1_areFree_19 : decode cX1_areFree 19 = .ok (.iaload, 1) := by decide +kernel
theorem dX1_areFree_20 : decode cX1_areFree 20 = .ok (.iload_n 3, 1) := by decide +kernel
theorem dX1_areFree_21 : decode cX1_areFree 21 = .ok (.if_icmp .gt 17, 3) := by decide +kernel
theorem dX1_areFree_24 : decode cX1_areFree 24 = .ok (.aload_n 0, 1) := by decide +kernel
theorem dX1_areFree_25 : decode cX1_areFree 25 = .ok (.getfield 19, 3) := by decide +kernel
theorem dX1_areFree_28 : decode cX1_areFree 28 = .ok (.iload_n 2, 1) := by decide +kernel
theorem dX1_areFree_29 : decode cX1_areFree 29 = .ok (.iaload, 1) := by decide +kernel
theorem dX1_areFree_30 : decode cX1_areFree 30 = .ok (.iload_n 3, 1) := by decide +kernel
theorem dX1_areFree_31 : decode cX1_areFree 31 = .ok (.if_icmp .gt 7, 3) := by decide +kernel
theorem dX1_areFree_34 : decode cX1_areFree 34 = .ok (.iconst 1, 1) := by decide +kernel
theorem dX1_areFree_35 : decode cX1_areFree 35 = .ok (.goto 4, 3) := by decide +kernel
theorem dX1_areFree_38 : decode cX1_areFree 38 = .ok (.iconst 0, 1) := by decide +kernel
theorem dX1_areFree_39 : decode cX1_areFree 39 = .ok (.ireturn, 1) := by decide +kernel
theorem dX1_isCordFree_0 : decode cX1_isCordFree 0 = .ok (.iload_n 1, 1) := by decide +kernel
theorem dX1_isCordFree_1 : decode cX1_isCordFree 1 = .ok (.ifCond .lt 22, 3) := by decide +kernel
theorem dX1_isCordFree_4 : decode cX1_isCordFree 4 = .ok (.iload_n 1, 1) := by decide +kernel
theorem dX1_isCordFree_5 : decode cX1_isCordFree 5 = .ok (.iconst 3, 1) := by decide +kernel
theorem dX1_isCordFree_6 : decode cX1_isCordFree 6 = .ok (.if_icmp .ge 17, 3) := by decide +kernel
theorem dX1_isCordFree_9 : decode cX1_isCordFree 9 = .ok (.aload_n 0, 1) := by decide +kernel
theorem dX1_isCordFree_10 : decode cX1_isCordFree 10 = .ok (.getfield 22, 3) := by decide +kernel
theorem dX1_isCordFree_13 : decode cX1_isCordFree 13 = .ok (.iload_n 1, 1) := by decide +kernel
theorem dX1_isCordFree_14 : decode cX1_isCordFree 14 = .ok (.iaload, 1) := by decide +kernel
theorem dX1_isCordFree_15 : decode cX1_isCordFree 15 = .ok (.iload_n 2, 1) := by decide +kernel
theorem dX1_isCordFree_16 : decode cX1_isCordFree 16 = .ok (.if_icmp .gt 7, 3) := by decide +kernel
theorem dX1_isCordFree_19 : decode cX1_isCordFree 19 = .ok (.iconst 1, 1) := by decide +kernel
theorem dX1_isCordFree_20 : decode cX1_isCordFree 20 = .ok (.goto 4, 3) := by decide +kernel
theorem dX1_isCordFree_23 : decode cX1_isCordFree 23 = .ok (.iconst 0, 1) := by decide +kernel
theorem dX1_isCordFree_24 : decode cX1_isCordFree 24 = .ok (.ireturn, 1) := by decide +kernel
theorem dX1_takeCord_0 : decode cX1_takeCord 0 = .ok (.iload_n 2, 1) := by decide +kernel
theorem dX1_takeCord_1 : decode cX1_takeCord 1 = .ok (.iload_n 3, 1) := by decide +kernel
theorem dX1_takeCord_2 : decode cX1_takeCord 2 = .ok (.if_icmp .eq 14, 3) := by decide +kernel
theorem dX1_takeCord_5 : decode cX1_takeCord 5 = .ok (.aload_n 0, 1) := by decide +kernel
theorem dX1_takeCord_6 : decode cX1_takeCord 6 = .ok (.iload_n 2, 1) := by decide +kernel
theorem dX1_takeCord_7 : decode cX1_takeCord 7 = .ok (.iload_n 3, 1) := by decide +kernel
theorem dX1_takeCord_8 : decode cX1_takeCord 8 = .ok (.iload 4, 2) := by decide +kernel
theorem dX1_takeCord_10 : decode cX1_takeCord 10 = .ok (.invokevirtual 79, 3) := by decide +kernel
theorem dX1_takeCord_13 : decode cX1_takeCord 13 = .ok (.ifCond .ne 5, 3) := by decide +kernel
theorem dX1_takeCord_16 : decode cX1_takeCord 16 = .ok (.iconst (-1), 1) := by decide +kernel
theorem dX1_takeCord_17 : decode cX1_takeCord 17 = .ok (.ireturn, 1) := by decide +kernel
theorem dX1_takeCord_18 : decode cX1_takeCord 18 = .ok (.iconst 0, 1) := by decide +kernel
theorem dX1_takeCord_19 : decode cX1_takeCord 19 = .ok (.istore 6, 2) := by decide +kernel
theorem dX1_takeCord_21 : decode cX1_takeCord 21 = .ok (.iload 6, 2) := by decide +kernel
theorem dX1_takeCord_23 : decode cX1_takeCord 23 = .ok (.aload_n 1, 1) := by decide +kernel
theorem dX1_takeCord_24 : decode cX1_takeCord 24 = .ok (.getfield 83, 3) := by decide +kernel
theorem dX1_takeCord_27 : decode cX1_takeCord 27 = .ok (.if_icmp .ge 44, 3) := by decide +kernel
theorem dX1_takeCord_30 : decode cX1_takeCord 30 = .ok (.aload_n 0, 1) := by decide +kernel
theorem dX1_takeCord_31 : decode cX1_takeCord 31 = .ok (.iload 6, 2) := by decide +kernel
theorem dX1_takeCord_33 : decode cX1_takeCord 33 = .ok (.iload 4, 2) := by decide +kernel
theorem dX1_takeCord_35 : decode cX1_takeCord 35 = .ok (.invokevirtual 88, 3) := by decide +kernel
theorem dX1_takeCord_38 : decode cX1_takeCord 38 = .ok (.ifCond .eq 27, 3) := by decide +kernel
theorem dX1_takeCord_41 : decode cX1_takeCord 41 = .ok (.aload_n 1, 1) := by decide +kernel
theorem dX1_takeCord_42 : decode cX1_takeCord 42 = .ok (.iload 6, 2) := by decide +kernel
theorem dX1_takeCord_44 : decode cX1_takeCord 44 = .ok (.iload_n 2, 1) := by decide +kernel
theorem dX1_takeCord_45 : decode cX1_takeCord 45 = .ok (.iload_n 3, 1) := by decide +kernel
theorem dX1_takeCord_46 : decode cX1_takeCord 46 = .ok (.invokevirtual 92, 3) := by decide +kernel
theorem dX1_takeCord_49 : decode cX1_takeCord 49 = .ok (.ifCond .eq 16, 3) := by decide +kernel
theorem dX1_takeCord_52 : decode cX1_takeCord 52 = .ok (.aload_n 0, 1) := by decide +kernel
theorem dX1_takeCord_53 : decode cX1_takeCord 53 = .ok (.iload_n 2, 1) := by decide +kernel
theorem dX1_takeCord_54 : decode cX1_takeCord 54 = .ok (.iload_n 3, 1) := by decide +kernel
theorem dX1_takeCord_55 : decode cX1_takeCord 55 = .ok (.iload 6, 2) := by decide +kernel
theorem dX1_takeCord_57 : decode cX1_takeCord 57 = .ok (.iload 5, 2) := by decide +kernel
theorem dX1_takeCord_59 : decode cX1_takeCord 59 = .ok (.invokevirtual 62, 3) := by decide +kernel
theorem dX1_takeCord_62 : decode cX1_takeCord 62 = .ok (.iload 6, 2) := by decide +kernel
theorem dX1_takeCord_64 : decode cX1_takeCord 64 = .ok (.ireturn, 1) := by decide +kernel
theorem dX1_takeCord_65 : decode cX1_takeCord 65 = .ok (.iinc 6 1, 3) := by decide +kernel
theorem dX1_takeCord_68 : decode cX1_takeCord 68 = .ok (.goto (-47), 3) := by decide +kernel
theorem dX1_takeCord_71 : decode cX1_takeCord 71 = .ok (.iconst (-1), 1) := by decide +kernel
theorem dX1_takeCord_72 : decode cX1_takeCord 72 = .ok (.ireturn, 1) := by decide +kernel
