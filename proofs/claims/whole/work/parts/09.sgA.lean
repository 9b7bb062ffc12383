theorem dX0_init_0 : decode cX0_init 0 = .ok (.aload_n 0, 1) := by decide +kernel
theorem dX0_init_1 : decode cX0_init 1 = .ok (.invokespecial 1, 3) := by decide +kernel
theorem dX0_init_4 : decode cX0_init 4 = .ok (.aload_n 0, 1) := by decide +kernel
theorem dX0_init_5 : decode cX0_init 5 = .ok (.iload_n 1, 1) := by decide +kernel
theorem dX0_init_6 : decode cX0_init 6 = .ok (.putfield 7, 3) := by decide +kernel
theorem dX0_init_9 : decode cX0_init 9 = .ok (.aload_n 0, 1) := by decide +kernel
theorem dX0_init_10 : decode cX0_init 10 = .ok (.iload_n 2, 1) := by decide +kernel
theorem dX0_init_11 : decode cX0_init 11 = .ok (.putfield 13, 3) := by decide +kernel
theorem dX0_init_14 : decode cX0_init 14 = .ok (.aload_n 0, 1) := by decide +kernel
theorem dX0_init_15 : decode cX0_init 15 = .ok (.iload_n 3, 1) := by decide +kernel
theorem dX0_init_16 : decode cX0_init 16 = .ok (.putfield 16, 3) := by decide +kernel
theorem dX0_init_19 : decode cX0_init 19 = .ok (.aload_n 0, 1) := by decide +kernel
theorem dX0_init_20 : decode cX0_init 20 = .ok (.iload 4, 2) := by decide +kernel
theorem dX0_init_22 : decode cX0_init 22 = .ok (.putfield 19, 3) := by decide +kernel
theorem dX0_init_25 : decode cX0_init 25 = .ok (.aload_n 0, 1) := by decide +kernel
theorem dX0_init_26 : decode cX0_init 26 = .ok (.iload 5, 2) := by decide +kernel
theorem dX0_init_28 : decode cX0_init 28 = .ok (.putfield 22, 3) := by decide +kernel
theorem dX0_init_31 : decode cX0_init 31 = .ok (.aload_n 0, 1) := by decide +kernel
theorem dX0_init_32 : decode cX0_init 32 = .ok (.iconst 1, 1) := by decide +kernel
theorem dX0_init_33 : decode cX0_init 33 = .ok (.putfield 25, 3) := by decide +kernel
theorem dX0_init_36 : decode cX0_init 36 = .ok (.return_, 1) := by decide +kernel
theorem dX0_hasWord_0 : decode cX0_hasWord 0 = .ok (.iload_n 1, 1) := by decide +kernel
theorem dX0_hasWord_1 : decode cX0_hasWord 1 = .ok (.aload_n 0, 1) := by decide +kernel
theorem dX0_hasWord_2 : decode cX0_hasWord 2 = .ok (.getfield 16, 3) := by decide +kernel
theorem dX0_hasWord_5 : decode cX0_hasWord 5 = .ok (.if_icmp .lt 20, 3) := by decide +kernel
theorem dX0_hasWord_8 : decode cX0_hasWord 8 = .ok (.iload_n 1, 1) := by decide +kernel
theorem dX0_hasWord_9 : decode cX0_hasWord 9 = .ok (.aload_n 0, 1) := by decide +kernel
theorem dX0_hasWord_10 : decode cX0_hasWord 10 = .ok (.getfield 16, 3) := by decide +kernel
theorem dX0_hasWord_13 : decode cX0_hasWord 13 = .ok (.aload_n 0, 1) := by decide +kernel
theorem dX0_hasWord_14 : decode cX0_hasWord 14 = .ok (.getfield 19, 3) := by decide +kernel
theorem dX0_hasWord_17 : decode cX0_hasWord 17 = .ok (.iadd, 1) := by decide +kernel
theorem dX0_hasWord_18 : decode cX0_hasWord 18 = .ok (.if_icmp .ge 7, 3) := by decide +kernel
theorem dX0_hasWord_21 : decode cX0_hasWord 21 = .ok (.iconst 1, 1) := by decide +kernel
theorem dX0_hasWord_22 : decode cX0_hasWord 22 = .ok (.goto 4, 3) := by decide +kernel
theorem dX0_hasWord_25 : decode cX0_hasWord 25 = .ok (.iconst 0, 1) := by decide +kernel
theorem dX0_hasWord_26 : decode cX0_hasWord 26 = .ok (.ireturn, 1) := by decide +kernel
theorem dX1_init_0 : decode cX1_init 0 = .ok (.aload_n 0, 1) := by decide +kernel
theorem dX1_init_1 : decode cX1_init 1 = .ok (.invokespecial 3, 3) := by decide +kernel
theorem dX1_init_4 : decode cX1_init 4 = .ok (.aload_n 0, 1) := by decide +kernel
theorem dX1_init_5 : decode cX1_init 5 = .ok (.iload_n 1, 1) := by decide +kernel
theorem dX1_init_6 : decode cX1_init 6 = .ok (.anewarray 9, 3) := by decide +kernel
theorem dX1_init_9 : decode cX1_init 9 = .ok (.putfield 11, 3) := by decide +kernel
theorem dX1_init_12 : decode cX1_init 12 = .ok (.return_, 1) := by decide +kernel
theorem dX1_at_0 : decode cX1_at 0 = .ok (.iload_n 1, 1) := by decide +kernel
theorem dX1_at_1 : decode cX1_at 1 = .ok (.iconst 1, 1) := by decide +kernel
theorem dX1_at_2 : decode cX1_at 2 = .ok (.if_icmp .ge 5, 3) := by decide +kernel
theorem dX1_at_5 : decode cX1_at 5 = .ok (.aconst_null, 1) := by decide +kernel
theorem dX1_at_6 : decode cX1_at 6 = .ok (.areturn, 1) := by decide +kernel
theorem dX1_at_7 : decode cX1_at 7 = .ok (.iload_n 1, 1) := by decide +kernel
theorem dX1_at_8 : decode cX1_at 8 = .ok (.iconst 1, 1) := by decide +kernel
theorem dX1_at_9 : decode cX1_at 9 = .ok (.isub, 1) := by decide +kernel
theorem dX1_at_10 : decode cX1_at 10 = .ok (.iconst 4, 1) := by decide +kernel
theorem dX1_at_11 : decode cX1_at 11 = .ok (.idiv, 1) := by decide +kernel
theorem dX1_at_12 : decode cX1_at 12 = .ok (.istore_n 2, 1) := by decide +kernel
theorem dX1_at_13 : decode cX1_at 13 = .ok (.iload_n 2, 1) := by decide +kernel
theorem dX1_at_14 : decode cX1_at 14 = .ok (.aload_n 0, 1) := by decide +kernel
theorem dX1_at_15 : decode cX1_at 15 = .ok (.getfield 11, 3) := by decide +kernel
theorem dX1_at_18 : decode cX1_at 18 = .ok (.arraylength, 1) := by decide +kernel
theorem dX1_at_19 : decode cX1_at 19 = .ok (.if_icmp .ge 12, 3) := by decide +kernel
theorem dX1_at_22 : decode cX1_at 22 = .ok (.aload_n 0, 1) := by decide +kernel
theorem dX1_at_23 : decode cX1_at 23 = .ok (.getfield 11, 3) := by decide +kernel
theorem dX1_at_26 : decode cX1_at 26 = .ok (.iload_n 2, 1) := by decide +kernel
theorem dX1_at_27 : decode cX1_at 27 = .ok (.aaload, 1) := by decide +kernel
theorem dX1_at_28 : decode cX1_at 28 = .ok (.goto 4, 3) := by decide +kernel
theorem dX1_at_31 : decode cX1_at 31 = .ok (.aconst_null, 1) := by decide +kernel
theorem dX1_at_32 : decode cX1_at 32 = .ok (.areturn, 1) := by decide +kernel
theorem dX1_startingAt_0 : decode cX1_startingAt 0 = .ok (.aload_n 0, 1) := by decide +kernel
theorem dX1_startingAt_1 : decode cX1_startingAt 1 = .ok (.iload_n 1, 1) := by decide +kernel
theorem dX1_startingAt_2 : decode cX1_startingAt 2 = .ok (.invokevirtual 17, 3) := by decide +kernel
theorem dX1_startingAt_5 : decode cX1_startingAt 5 = .ok (.astore_n 2, 1) := by decide +kernel
theorem dX1_startingAt_6 : decode cX1_startingAt 6 = .ok (.aload_n 2, 1) := by decide +kernel
theorem dX1_startingAt_7 : decode cX1_startingAt 7 = .ok (.ifnull 15, 3) := by decide +kernel
theorem dX1_startingAt_10 : decode cX1_startingAt 10 = .ok (.aload_n 2, 1) := by decide +kernel
theorem dX1_startingAt_11 : decode cX1_startingAt 11 = .ok (.getfield 21, 3) := by decide +kernel
theorem dX1_startingAt_14 : decode cX1_startingAt 14 = .ok (.iload_n 1, 1) := by decide +kernel
theorem dX1_startingAt_15 : decode cX1_startingAt 15 = .ok (.if_icmp .ne 7, 3) := by decide +kernel
theorem dX1_startingAt_18 : decode cX1_startingAt 18 = .ok (.aload_n 2, 1) := by decide +kernel
theorem dX1_startingAt_19 : decode cX1_startingAt 19 = .ok (.goto 4, 3) := by decide +kernel
theorem dX1_startingAt_22 : decode cX1_startingAt 22 = .ok (.aconst_null, 1) := by decide +kernel
theorem dX1_startingAt_23 : decode cX1_startingAt 23 = .ok (.areturn, 1) := by decide +kernel
theorem dX1_liveStartingAt_0 : decode cX1_liveStartingAt 0 = .ok (.aload_n 0, 1) := by decide +kernel
theorem dX1_liveStartingAt_1 : decode cX1_liveStartingAt 1 = .ok (.iload_n 1, 1) := by decide +kernel
theorem dX1_liveStartingAt_2 : decode cX1_liveStartingAt 2 = .ok (.invokevirtual 25, 3) := by decide +kernel
theorem dX1_liveStartingAt_5 : decode cX1_liveStartingAt 5 = .ok (.astore_n 2, 1) := by decide +kernel
theorem dX1_liveStartingAt_6 : decode cX1_liveStartingAt 6 = .ok (.aload_n 2, 1) := by decide +kernel
theorem dX1_liveStartingAt_7 : decode cX1_liveStartingAt 7 = .ok (.ifnull 14, 3) := by decide +kernel
theorem dX1_liveStartingAt_10 : decode cX1_liveStartingAt 10 = .ok (.aload_n 2, 1) := by decide +kernel
theorem dX1_liveStartingAt_11 : decode cX1_liveStartingAt 11 = .ok (.getfield 28, 3) := by decide +kernel
theorem dX1_liveStartingAt_14 : decode cX1_liveStartingAt 14 = .ok (.ifCond .eq 7, 3) := by decide +kernel
theorem dX1_liveStartingAt_17 : decode cX1_liveStartingAt 17 = .ok (.aload_n 2, 1) := by decide +kernel
theorem dX1_liveStartingAt_18 : decode cX1_liveStartingAt 18 = .ok (.goto 4, 3) := by decide +kernel
theorem dX1_liveStartingAt_21 : decode cX1_liveStartingAt 21 = .ok (.aconst_null, 1) := by decide +kernel
theorem dX1_liveStartingAt_22 : decode cX1_liveStartingAt 22 = .ok (.areturn, 1) := by decide +kernel
theorem dX1_ledToBy_0 : decode cX1_ledToBy 0 = .ok (.aload_n 0, 1) := by decide +kernel
theorem dX1_ledToBy_1 : decode cX1_ledToBy 1 = .ok (.iload_n 1, 1) := by decide +kernel
theorem dX1_ledToBy_2 : decode cX1_ledToBy 2 = .ok (.invokevirtual 17, 3) := by decide +kernel
theorem dX1_ledToBy_5 : decode cX1_ledToBy 5 = .ok (.astore_n 2, 1) := by decide +kernel
theorem dX1_ledToBy_6 : decode cX1_ledToBy 6 = .ok (.aload_n 2, 1) := by decide +kernel
theorem dX1_ledToBy_7 : decode cX1_ledToBy 7 = .ok (.ifnull 22, 3) := by decide +kernel
theorem dX1_ledToBy_10 : decode cX1_ledToBy 10 = .ok (.aload_n 2, 1) := by decide +kernel
theorem dX1_ledToBy_11 : decode cX1_ledToBy 11 = .ok (.getfield 28, 3) := by decide +kernel
theorem dX1_ledToBy_14 : decode cX1_ledToBy 14 = .ok (.ifCond .eq 15, 3) := by decide +kernel
theorem dX1_ledToBy_17 : decode cX1_ledToBy 17 = .ok (.aload_n 2, 1) := by decide +kernel
theorem dX1_ledToBy_18 : decode cX1_ledToBy 18 = .ok (.iload_n 1, 1) := by decide +kernel
theorem dX1_ledToBy_19 : decode cX1_ledToBy 19 = .ok (.invokevirtual 32, 3) := by decide +kernel
theorem dX1_ledToBy_22 : decode cX1_ledToBy 22 = .ok (.ifCond .eq 7, 3) := by decide +kernel
theorem dX1_ledToBy_25 : decode cX1_ledToBy 25 = .ok (.aload_n 2, 1) := by decide +kernel
theorem dX1_ledToBy_26 : decode cX1_ledToBy 26 = .ok (.goto 4, 3) := by decide +kernel
theorem dX1_ledToBy_29 : decode cX1_ledToBy 29 = .ok (.aconst_null, 1) := by decide +kernel
theorem dX1_ledToBy_30 : decode cX1_ledToBy 30 = .ok (.areturn, 1) := by decide +kernel
theorem dX1_liveFromUnit_0 : decode cX1_liveFromUnit 0 = .ok (.iload_n 1, 1) := by decide +kernel
theorem dX1_liveFromUnit_1 : decode cX1_liveFromUnit 1 = .ok (.ifCond .lt 12, 3) := by decide +kernel
theorem dX1_liveFromUnit_4 : decode cX1_liveFromUnit 4 = .ok (.iload_n 1, 1) := by decide +kernel
theorem dX1_liveFromUnit_5 : decode cX1_liveFromUnit 5 = .ok (.aload_n 0, 1) := by decide +kernel
theorem dX1_liveFromUnit_6 : decode cX1_liveFromUnit 6 = .ok (.getfield 11, 3) := by decide +kernel
theorem dX1_liveFromUnit_9 : decode cX1_liveFromUnit 9 = .ok (.arraylength, 1) := by decide +kernel
theorem dX1_liveFromUnit_10 : decode cX1_liveFromUnit 10 = .ok (.if_icmp .lt 5, 3) := by decide +kernel
theorem dX1_liveFromUnit_13 : decode cX1_liveFromUnit 13 = .ok (.aconst_null, 1) := by decide +kernel
theorem dX1_liveFromUnit_14 : decode cX1_liveFromUnit 14 = .ok (.areturn, 1) := by decide +kernel
theorem dX1_liveFromUnit_15 : decode cX1_liveFromUnit 15 = .ok (.aload_n 0, 1) := by decide +kernel
theorem dX1_liveFromUnit_16 : decode cX1_liveFromUnit 16 = .ok (.getfield 11, 3) := by decide +kernel
theorem dX1_liveFromUnit_19 : decode cX1_liveFromUnit 19 = .ok (.iload_n 1, 1) := by decide +kernel
theorem dX1_liveFromUnit_20 : decode cX1_liveFromUnit 20 = .ok (.aaload, 1) := by decide +kernel
theorem dX1_liveFromUnit_21 : decode cX1_liveFromUnit 21 = .ok (.astore_n 2, 1) := by decide +kernel
theorem dX1_liveFromUnit_22 : decode cX1_liveFromUnit 22 = .ok (.aload_n 2, 1) := by decide +kernel
theorem dX1_liveFromUnit_23 : decode cX1_liveFromUnit 23 = .ok (.ifnull 19, 3) := by decide +kernel
theorem dX1_liveFromUnit_26 : decode cX1_liveFromUnit 26 = .ok (.aload_n 2, 1) := by decide +kernel
theorem dX1_liveFromUnit_27 : decode cX1_liveFromUnit 27 = .ok (.getfield 36, 3) := by decide +kernel
theorem dX1_liveFromUnit_30 : decode cX1_liveFromUnit 30 = .ok (.iconst 1, 1) := by decide +kernel
theorem dX1_liveFromUnit_31 : decode cX1_liveFromUnit 31 = .ok (.iload_n 1, 1) := by decide +kernel
theorem dX1_liveFromUnit_32 : decode cX1_liveFromUnit 32 = .ok (.iconst 4, 1) := by decide +kernel
theorem dX1_liveFromUnit_33 : decode cX1_liveFromUnit 33 = .ok (.imul, 1) := by decide +kernel
theorem dX1_liveFromUnit_34 : decode cX1_liveFromUnit 34 = .ok (.iadd, 1) := by decide +kernel
theorem dX1_liveFromUnit_35 : decode cX1_liveFromUnit 35 = .ok (.if_icmp .ne 7, 3) := by decide +kernel
theorem dX1_liveFromUnit_38 : decode cX1_liveFromUnit 38 = .ok (.iconst 1, 1) := by decide +kernel
theorem dX1_liveFromUnit_39 : decode cX1_liveFromUnit 39 = .ok (.goto 4, 3) := by decide +kernel
theorem dX1_liveFromUnit_42 : decode cX1_liveFromUnit 42 = .ok (.iconst 0, 1) := by decide +kernel
theorem dX1_liveFromUnit_43 : decode cX1_liveFromUnit 43 = .ok (.istore_n 3, 1) := by decide +kernel
theorem dX1_liveFromUnit_44 : decode cX1_liveFromUnit 44 = .ok (.iload_n 3, 1) := by decide +kernel
theorem dX1_liveFromUnit_45 : decode cX1_liveFromUnit 45 = .ok (.ifCond .eq 14, 3) := by decide +kernel
theorem dX1_liveFromUnit_48 : decode cX1_liveFromUnit 48 = .ok (.aload_n 2, 1) := by decide +kernel
theorem dX1_liveFromUnit_49 : decode cX1_liveFromUnit 49 = .ok (.getfield 28, 3) := by decide +kernel
theorem dX1_liveFromUnit_52 : decode cX1_liveFromUnit 52 = .ok (.ifCond .eq 7, 3) := by decide +kernel
theorem dX1_liveFromUnit_55 : decode cX1_liveFromUnit 55 = .ok (.aload_n 2, 1) := by decide +kernel
theorem dX1_liveFromUnit_56 : decode cX1_liveFromUnit 56 = .ok (.goto 4, 3) := by decide +kernel
theorem dX1_liveFromUnit_59 : decode cX1_liveFromUnit 59 = .ok (.aconst_null, 1) := by decide +kernel
theorem dX1_liveFromUnit_60 : decode cX1_liveFromUnit 60 = .ok (.areturn, 1) := by decide +kernel
theorem dX1_sortOf_0 : decode cX1_sortOf 0 = .ok (.aload_n 0, 1) := by decide +kernel
theorem dX1_sortOf_1 : decode cX1_sortOf 1 = .ok (.iload_n 1, 1) := by decide +kernel
theorem dX1_sortOf_2 : decode cX1_sortOf 2 = .ok (.invokevirtual 17, 3) := by decide +kernel
theorem dX1_sortOf_5 : decode cX1_sortOf 5 = .ok (.astore_n 2, 1) := by decide +kernel
theorem dX1_sortOf_6 : decode cX1_sortOf 6 = .ok (.aload_n 2, 1) := by decide +kernel
theorem dX1_sortOf_7 : decode cX1_sortOf 7 = .ok (.ifnonnull 5, 3) := by decide +kernel
theorem dX1_sortOf_10 : decode cX1_sortOf 10 = .ok (.iconst 3, 1) := by decide +kernel
theorem dX1_sortOf_11 : decode cX1_sortOf 11 = .ok (.ireturn, 1) := by decide +kernel
theorem dX1_sortOf_12 : decode cX1_sortOf 12 = .ok (.aload_n 2, 1) := by decide +kernel
theorem dX1_sortOf_13 : decode cX1_sortOf 13 = .ok (.iload_n 1, 1) := by decide +kernel
theorem dX1_sortOf_14 : decode cX1_sortOf 14 = .ok (.invokevirtual 32, 3) := by decide +kernel
theorem dX1_sortOf_17 : decode cX1_sortOf 17 = .ok (.ifCond .ne 5, 3) := by decide +kernel
theorem dX1_sortOf_20 : decode cX1_sortOf 20 = .ok (.iconst 2, 1) := by decide +kernel
theorem dX1_sortOf_21 : decode cX1_sortOf 21 = .ok (.ireturn, 1) := by decide +kernel
theorem dX1_sortOf_22 : decode cX1_sortOf 22 = .ok (.aload_n 2, 1) := by decide +kernel
theorem dX1_sortOf_23 : decode cX1_sortOf 23 = .ok (.getfield 28, 3) := by decide +kernel
theorem dX1_sortOf_26 : decode cX1_sortOf 26 = .ok (.ifCond .eq 7, 3) := by decide +kernel
theorem dX1_sortOf_29 : decode cX1_sortOf 29 = .ok (.iconst 0, 1) := by decide +kernel
theorem dX1_sortOf_30 : decode cX1_sortOf 30 = .ok (.goto 4, 3) := by decide +kernel
theorem dX1_sortOf_33 : decode cX1_sortOf 33 = .ok (.iconst 1, 1) := by decide +kernel
theorem dX1_sortOf_34 : decode cX1_sortOf 34 = .ok (.ireturn, 1) := by decide +kernel
theorem dX1_ownWordsFrom_0 : decode cX1_ownWordsFrom 0 = .ok (.iconst 0, 1) := by decide +kernel
theorem dX1_ownWordsFrom_1 : decode cX1_ownWordsFrom 1 = .ok (.istore_n 3, 1) := by decide +kernel
theorem dX1_ownWordsFrom_2 : decode cX1_ownWordsFrom 2 = .ok (.iload_n 3, 1) := by decide +kernel
theorem dX1_ownWordsFrom_3 : decode cX1_ownWordsFrom 3 = .ok (.iload_n 2, 1) := by decide +kernel
theorem dX1_ownWordsFrom_4 : decode cX1_ownWordsFrom 4 = .ok (.if_icmp .ge 21, 3) := by decide +kernel
theorem dX1_ownWordsFrom_7 : decode cX1_ownWordsFrom 7 = .ok (.aload_n 0, 1) := by decide +kernel
theorem dX1_ownWordsFrom_8 : decode cX1_ownWordsFrom 8 = .ok (.iload_n 1, 1) := by decide +kernel
theorem dX1_ownWordsFrom_9 : decode cX1_ownWordsFrom 9 = .ok (.iload_n 3, 1) := by decide +kernel
theorem dX1_ownWordsFrom_10 : decode cX1_ownWordsFrom 10 = .ok (.iadd, 1) := by decide +kernel
theorem dX1_ownWordsFrom_11 : decode cX1_ownWordsFrom 11 = .ok (.invokevirtual 39, 3) := by decide +kernel
theorem dX1_ownWordsFrom_14 : decode cX1_ownWordsFrom 14 = .ok (.ifCond .eq 5, 3) := by decide +kernel
theorem dX1_ownWordsFrom_17 : decode cX1_ownWordsFrom 17 = .ok (.iload_n 3, 1) := by decide +kernel
theorem dX1_ownWordsFrom_18 : decode cX1_ownWordsFrom 18 = .ok (.ireturn, 1) := by decide +kernel
theorem dX1_ownWordsFrom_19 : decode cX1_ownWordsFrom 19 = .ok (.iinc 3 1, 3) := by decide +kernel
theorem dX1_ownWordsFrom_22 : decode cX1_ownWordsFrom 22 = .ok (.goto (-20), 3) := by decide +kernel
theorem dX1_ownWordsFrom_25 : decode cX1_ownWordsFrom 25 = .ok (.iload_n 2, 1) := by decide +kernel
theorem dX1_ownWordsFrom_26 : decode cX1_ownWordsFrom 26 = .ok (.ireturn, 1) := by decide +kernel
theorem dX1_enter_0 : decode cX1_enter 0 = .ok (.aload_n 0, 1) := by decide +kernel
theorem dX1_enter_1 : decode cX1_enter 1 = .ok (.aload_n 1, 1) := by decide +kernel
theorem dX1_enter_2 : decode cX1_enter 2 = .ok (.aload_n 1, 1) := by decide +kernel
theorem dX1_enter_3 : decode cX1_enter 3 = .ok (.invokevirtual 43, 3) := by decide +kernel
theorem dX1_enter_6 : decode cX1_enter 6 = .ok (.return_, 1) := by decide +kernel
theorem dX1_remove_0 : decode cX1_remove 0 = .ok (.aload_n 0, 1) := by decide +kernel
theorem dX1_remove_1 : decode cX1_remove 1 = .ok (.aload_n 1, 1) := by decide +kernel
theorem dX1_remove_2 : decode cX1_remove 2 = .ok (.aconst_null, 1) := by decide +kernel
theorem dX1_remove_3 : decode cX1_remove 3 = .ok (.invokevirtual 43, 3) := by decide +kernel
theorem dX1_remove_6 : decode cX1_remove 6 = .ok (.return_, 1) := by decide +kernel
theorem dX1_fillUnits_0 : decode cX1_fillUnits 0 = .ok (.aload_n 1, 1) := by decide +kernel
theorem dX1_fillUnits_1 : decode cX1_fillUnits 1 = .ok (.getfield 36, 3) := by decide +kernel
theorem dX1_fillUnits_4 : decode cX1_fillUnits 4 = .ok (.iconst 1, 1) := by decide +kernel
theorem dX1_fillUnits_5 : decode cX1_fillUnits 5 = .ok (.isub, 1) := by decide +kernel
theorem dX1_fillUnits_6 : decode cX1_fillUnits 6 = .ok (.iconst 0, 1) := by decide +kernel
theorem dX1_fillUnits_7 : decode cX1_fillUnits 7 = .ok (.invokestatic 47, 3) := by decide +kernel
theorem dX1_fillUnits_10 : decode cX1_fillUnits 10 = .ok (.iconst 4, 1) := by decide +kernel
theorem dX1_fillUnits_11 : decode cX1_fillUnits 11 = .ok (.idiv, 1) := by decide +kernel
theorem dX1_fillUnits_12 : decode cX1_fillUnits 12 = .ok (.istore_n 3, 1) := by decide +kernel
theorem dX1_fillUnits_13 : decode cX1_fillUnits 13 = .ok (.iload_n 3, 1) := by decide +kernel
theorem dX1_fillUnits_14 : decode cX1_fillUnits 14 = .ok (.aload_n 1, 1) := by decide +kernel
theorem dX1_fillUnits_15 : decode cX1_fillUnits 15 = .ok (.getfield 53, 3) := by decide +kernel
theorem dX1_fillUnits_18 : decode cX1_fillUnits 18 = .ok (.iconst 4, 1) := by decide +kernel
theorem dX1_fillUnits_19 : decode cX1_fillUnits 19 = .ok (.idiv, 1) := by decide +kernel
theorem dX1_fillUnits_20 : decode cX1_fillUnits 20 = .ok (.iadd, 1) := by decide +kernel
theorem dX1_fillUnits_21 : decode cX1_fillUnits 21 = .ok (.istore 4, 2) := by decide +kernel
theorem dX1_fillUnits_23 : decode cX1_fillUnits 23 = .ok (.iload_n 3, 1) := by decide +kernel
theorem dX1_fillUnits_24 : decode cX1_fillUnits 24 = .ok (.istore 5, 2) := by decide +kernel
theorem dX1_fillUnits_26 : decode cX1_fillUnits 26 = .ok (.iload 5, 2) := by decide +kernel
theorem dX1_fillUnits_28 : decode cX1_fillUnits 28 = .ok (.iload 4, 2) := by decide +kernel
theorem dX1_fillUnits_30 : decode cX1_fillUnits 30 = .ok (.if_icmp .ge 27, 3) := by decide +kernel
theorem dX1_fillUnits_33 : decode cX1_fillUnits 33 = .ok (.iload 5, 2) := by decide +kernel
theorem dX1_fillUnits_35 : decode cX1_fillUnits 35 = .ok (.aload_n 0, 1) := by decide +kernel
theorem dX1_fillUnits_36 : decode cX1_fillUnits 36 = .ok (.getfield 11, 3) := by decide +kernel
theorem dX1_fillUnits_39 : decode cX1_fillUnits 39 = .ok (.arraylength, 1) := by decide +kernel
theorem dX1_fillUnits_40 : decode cX1_fillUnits 40 = .ok (.if_icmp .ge 17, 3) := by decide +kernel
theorem dX1_fillUnits_43 : decode cX1_fillUnits 43 = .ok (.aload_n 0, 1) := by decide +kernel
theorem dX1_fillUnits_44 : decode cX1_fillUnits 44 = .ok (.getfield 11, 3) := by decide +kernel
theorem dX1_fillUnits_47 : decode cX1_fillUnits 47 = .ok (.iload 5, 2) := by decide +kernel
theorem dX1_fillUnits_49 : decode cX1_fillUnits 49 = .ok (.aload_n 2, 1) := by decide +kernel
theorem dX1_fillUnits_50 : decode cX1_fillUnits 50 = .ok (.aastore, 1) := by decide +kernel
theorem dX1_fillUnits_51 : decode cX1_fillUnits 51 = .ok (.iinc 5 1, 3) := by decide +kernel
theorem dX1_fillUnits_54 : decode cX1_fillUnits 54 = .ok (.goto (-28), 3) := by decide +kernel
theorem dX1_fillUnits_57 : decode cX1_fillUnits 57 = .ok (.return_, 1) := by decide +kernel
theorem dX2_init_0 : decode cX2_init 0 = .ok (.aload_n 0, 1) := by decide +kernel
theorem dX2_init_1 : decode cX2_init 1 = .ok (.invokespecial 1, 3) := by decide +kernel
theorem dX2_init_4 : decode cX2_init 4 = .ok (.aload_n 0, 1) := by decide +kernel
theorem dX2_init_5 : decode cX2_init 5 = .ok (.iload_n 1, 1) := by decide +kernel
theorem dX2_init_6 : decode cX2_init 6 = .ok (.putfield 7, 3) := by decide +kernel
theorem dX2_init_9 : decode cX2_init 9 = .ok (.aload_n 0, 1) := by decide +kernel
theorem dX2_init_10 : decode cX2_init 10 = .ok (.iload_n 2, 1) := by decide +kernel
theorem dX2_init_11 : decode cX2_init 11 = .ok (.putfield 13, 3) := by decide +kernel
theorem dX2_init_14 : decode cX2_init 14 = .ok (.return_, 1) := by decide +kernel
theorem dX2_end_0 : decode cX2_end 0 = .ok (.aload_n 0, 1) := by decide +kernel
theorem dX2_end_1 : decode cX2_end 1 = .ok (.getfield 7, 3) := by decide +kernel
theorem dX2_end_4 : decode cX2_end 4 = .ok (.aload_n 0, 1) := by decide +kernel
theorem dX2_end_5 : decode cX2_end 5 = .ok (.getfield 13, 3) := by decide +kernel
theorem dX2_end_8 : decode cX2_end 8 = .ok (.iadd, 1) := by decide +kernel
theorem dX2_end_9 : decode cX2_end 9 = .ok (.ireturn, 1) := by decide +kernel
theorem dX4_init_0 : decode cX4_init 0 = .ok (.aload_n 0, 1) := by decide +kernel
theorem dX4_init_1 : decode cX4_init 1 = .ok (.invokespecial 3, 3) := by decide +kernel
theorem dX4_init_4 : decode cX4_init 4 = .ok (.aload_n 0, 1) := by decide +kernel
theorem dX4_init_5 : decode cX4_init 5 = .ok (.bipush 32, 2) := by decide +kernel
theorem dX4_init_7 : decode cX4_init 7 = .ok (.newarray .int, 2) := by decide +kernel
theorem dX4_init_9 : decode cX4_init 9 = .ok (.putfield 9, 3) := by decide +kernel
theorem dX4_init_12 : decode cX4_init 12 = .ok (.aload_n 0, 1) := by decide +kernel
theorem dX4_init_13 : decode cX4_init 13 = .ok (.bipush 32, 2) := by decide +kernel
theorem dX4_init_15 : decode cX4_init 15 = .ok (.newarray .int, 2) := by decide +kernel
theorem dX4_init_17 : decode cX4_init 17 = .ok (.putfield 15, 3) := by decide +kernel
theorem dX4_init_20 : decode cX4_init 20 = .ok (.return_, 1) := by decide +kernel
theorem dX4_keep_0 : decode cX4_keep 0 = .ok (.aload_n 0, 1) := by decide +kernel
theorem dX4_keep_1 : decode cX4_keep 1 = .ok (.getfield 18, 3) := by decide +kernel
theorem dX4_keep_4 : decode cX4_keep 4 = .ok (.bipush 32, 2) := by decide +kernel
theorem dX4_keep_6 : decode cX4_keep 6 = .ok (.invokestatic 22, 3) := by decide +kernel
theorem dX4_keep_9 : decode cX4_keep 9 = .ok (.istore_n 3, 1) := by decide +kernel
theorem dX4_keep_10 : decode cX4_keep 10 = .ok (.aload_n 0, 1) := by decide +kernel
theorem dX4_keep_11 : decode cX4_keep 11 = .ok (.getfield 9, 3) := by decide +kernel
theorem dX4_keep_14 : decode cX4_keep 14 = .ok (.iload_n 3, 1) := by decide +kernel
theorem dX4_keep_15 : decode cX4_keep 15 = .ok (.iload_n 1, 1) := by decide +kernel
theorem dX4_keep_16 : decode cX4_keep 16 = .ok (.iastore, 1) := by decide +kernel
theorem dX4_keep_17 : decode cX4_keep 17 = .ok (.aload_n 0, 1) := by decide +kernel
theorem dX4_keep_18 : decode cX4_keep 18 = .ok (.getfield 15, 3) := by decide +kernel
theorem dX4_keep_21 : decode cX4_keep 21 = .ok (.iload_n 3, 1) := by decide +kernel
theorem dX4_keep_22 : decode cX4_keep 22 = .ok (.iload_n 2, 1) := by decide +kernel
theorem dX4_keep_23 : decode cX4_keep 23 = .ok (.iastore, 1) := by decide +kernel
theorem dX4_keep_24 : decode cX4_keep 24 = .ok (.aload_n 0, 1) := by decide +kernel
theorem dX4_keep_25 : decode cX4_keep 25 = .ok (.dup, 1) := by decide +kernel
theorem dX4_keep_26 : decode cX4_keep 26 = .ok (.getfield 18, 3) := by decide +kernel
theorem dX4_keep_29 : decode cX4_keep 29 = .ok (.iconst 1, 1) := by decide +kernel
theorem dX4_keep_30 : decode cX4_keep 30 = .ok (.iadd, 1) := by decide +kernel
theorem dX4_keep_31 : decode cX4_keep 31 = .ok (.putfield 18, 3) := by decide +kernel
theorem dX4_keep_34 : decode cX4_keep 34 = .ok (.return_, 1) := by decide +kernel
theorem dX4_has_0 : decode cX4_has 0 = .ok (.iload_n 1, 1) := by decide +kernel
theorem dX4_has_1 : decode cX4_has 1 = .ok (.ifCond .lt 21, 3) := by decide +kernel
theorem dX4_has_4 : decode cX4_has 4 = .ok (.iload_n 1, 1) := by decide +kernel
theorem dX4_has_5 : decode cX4_has 5 = .ok (.bipush 32, 2) := by decide +kernel
theorem dX4_has_7 : decode cX4_has 7 = .ok (.if_icmp .ge 15, 3) := by decide +kernel
theorem dX4_has_10 : decode cX4_has 10 = .ok (.iload_n 1, 1) := by decide +kernel
theorem dX4_has_11 : decode cX4_has 11 = .ok (.aload_n 0, 1) := by decide +kernel
theorem dX4_has_12 : decode cX4_has 12 = .ok (.getfield 18, 3) := by decide +kernel
theorem dX4_has_15 : decode cX4_has 15 = .ok (.if_icmp .ge 7, 3) := by decide +kernel
theorem dX4_has_18 : decode cX4_has 18 = .ok (.iconst 1, 1) := by decide +kernel
theorem dX4_has_19 : decode cX4_has 19 = .ok (.goto 4, 3) := by decide +kernel
theorem dX4_has_22 : decode cX4_has 22 = .ok (.iconst 0, 1) := by decide +kernel
theorem dX4_has_23 : decode cX4_has 23 = .ok (.ireturn, 1) := by decide +kernel
theorem dX4_slotOf_0 : decode cX4_slotOf 0 = .ok (.aload_n 0, 1) := by decide +kernel
theorem dX4_slotOf_1 : decode cX4_slotOf 1 = .ok (.getfield 18, 3) := by decide +kernel
theorem dX4_slotOf_4 : decode cX4_slotOf 4 = .ok (.iconst 1, 1) := by decide +kernel
theorem dX4_slotOf_5 : decode cX4_slotOf 5 = .ok (.isub, 1) := by decide +kernel
theorem dX4_slotOf_6 : decode cX4_slotOf 6 = .ok (.iload_n 1, 1) := by decide +kernel
theorem dX4_slotOf_7 : decode cX4_slotOf 7 = .ok (.isub, 1) := by decide +kernel
theorem dX4_slotOf_8 : decode cX4_slotOf 8 = .ok (.bipush 32, 2) := by decide +kernel
theorem dX4_slotOf_10 : decode cX4_slotOf 10 = .ok (.invokestatic 22, 3) := by decide +kernel
theorem dX4_slotOf_13 : decode cX4_slotOf 13 = .ok (.ireturn, 1) := by decide +kernel
theorem dX4_kindOf_0 : decode cX4_kindOf 0 = .ok (.aload_n 0, 1) := by decide +kernel
theorem dX4_kindOf_1 : decode cX4_kindOf 1 = .ok (.getfield 9, 3) := by decide +kernel
theorem dX4_kindOf_4 : decode cX4_kindOf 4 = .ok (.aload_n 0, 1) := by decide +kernel
theorem dX4_kindOf_5 : decode cX4_kindOf 5 = .ok (.iload_n 1, 1) := by decide +kernel
theorem dX4_kindOf_6 : decode cX4_kindOf 6 = .ok (.invokevirtual 28, 3) := by decide +kernel
theorem dX4_kindOf_9 : decode cX4_kindOf 9 = .ok (.iaload, 1) := by decide +kernel
theorem dX4_kindOf_10 : decode cX4_kindOf 10 = .ok (.ireturn, 1) := by decide +kernel
theorem dX4_addressOf_0 : decode cX4_addressOf 0 = .ok (.aload_n 0, 1) := by decide +kernel
theorem dX4_addressOf_1 : decode cX4_addressOf 1 = .ok (.getfield 15, 3) := by decide +kernel
theorem dX4_addressOf_4 : decode cX4_addressOf 4 = .ok (.aload_n 0, 1) := by decide +kernel
theorem dX4_addressOf_5 : decode cX4_addressOf 5 = .ok (.iload_n 1, 1) := by decide +kernel
theorem dX4_addressOf_6 : decode cX4_addressOf 6 = .ok (.invokevirtual 28, 3) := by decide +kernel
theorem dX4_addressOf_9 : decode cX4_addressOf 9 = .ok (.iaload, 1) := by decide +kernel
theorem dX4_addressOf_10 : decode cX4_addressOf 10 = .ok (.ireturn, 1) := by decide +kernel
theorem dX6_init_0 : decode cX6_init 0 = .ok (.aload_n 0, 1) := by decide +kernel
theorem dX6_init_1 : decode cX6_init 1 = .ok (.invokespecial 1, 3) := by decide +kernel
theorem dX6_init_4 : decode cX6_init 4 = .ok (.aload_n 0, 1) := by decide +kernel
theorem dX6_init_5 : decode cX6_init 5 = .ok (.iload_n 1, 1) := by decide +kernel
theorem dX6_init_6 : decode cX6_init 6 = .ok (.newarray .int, 2) := by decide +kernel
theorem dX6_init_8 : decode cX6_init 8 = .ok (.putfield 7, 3) := by decide +kernel
theorem dX6_init_11 : decode cX6_init 11 = .ok (.return_, 1) := by decide +kernel
theorem dX6_has_0 : decode cX6_has 0 = .ok (.iload_n 1, 1) := by decide +kernel
theorem dX6_has_1 : decode cX6_has 1 = .ok (.ifCond .lt 16, 3) := by decide +kernel
theorem dX6_has_4 : decode cX6_has 4 = .ok (.iload_n 1, 1) := by decide +kernel
theorem dX6_has_5 : decode cX6_has 5 = .ok (.aload_n 0, 1) := by decide +kernel
theorem dX6_has_6 : decode cX6_has 6 = .ok (.getfield 7, 3) := by decide +kernel
theorem dX6_has_9 : decode cX6_has 9 = .ok (.arraylength, 1) := by decide +kernel
theorem dX6_has_10 : decode cX6_has 10 = .ok (.if_icmp .ge 7, 3) := by decide +kernel
theorem dX6_has_13 : decode cX6_has 13 = .ok (.iconst 1, 1) := by decide +kernel
theorem dX6_has_14 : decode cX6_has 14 = .ok (.goto 4, 3) := by decide +kernel
theorem dX6_has_17 : decode cX6_has 17 = .ok (.iconst 0, 1) := by decide +kernel
theorem dX6_has_18 : decode cX6_has 18 = .ok (.ireturn, 1) := by decide +kernel
theorem dX6_read_0 : decode cX6_read 0 = .ok (.aload_n 0, 1) := by decide +kernel
theorem dX6_read_1 : decode cX6_read 1 = .ok (.iload_n 1, 1) := by decide +kernel
theorem dX6_read_2 : decode cX6_read 2 = .ok (.invokevirtual 13, 3) := by decide +kernel
theorem dX6_read_5 : decode cX6_read 5 = .ok (.ifCond .eq 12, 3) := by decide +kernel
theorem dX6_read_8 : decode cX6_read 8 = .ok (.aload_n 0, 1) := by decide +kernel
theorem dX6_read_9 : decode cX6_read 9 = .ok (.getfield 7, 3) := by decide +kernel
theorem dX6_read_12 : decode cX6_read 12 = .ok (.iload_n 1, 1) := by decide +kernel
theorem dX6_read_13 : decode cX6_read 13 = .ok (.iaload, 1) := by decide +kernel
theorem dX6_read_14 : decode cX6_read 14 = .ok (.goto 4, 3) := by decide +kernel
theorem dX6_read_17 : decode cX6_read 17 = .ok (.iconst 0, 1) := by decide +kernel
theorem dX6_read_18 : decode cX6_read 18 = .ok (.ireturn, 1) := by decide +kernel
theorem dX6_write_0 : decode cX6_write 0 = .ok (.aload_n 0, 1) := by decide +kernel
theorem dX6_write_1 : decode cX6_write 1 = .ok (.iload_n 1, 1) := by decide +kernel
theorem dX6_write_2 : decode cX6_write 2 = .ok (.invokevirtual 13, 3) := by decide +kernel
theorem dX6_write_5 : decode cX6_write 5 = .ok (.ifCond .eq 10, 3) := by decide +kernel
theorem dX6_write_8 : decode cX6_write 8 = .ok (.aload_n 0, 1) := by decide +kernel
theorem dX6_write_9 : decode cX6_write 9 = .ok (.getfield 7, 3) := by decide +kernel
theorem dX6_write_12 : decode cX6_write 12 = .ok (.iload_n 1, 1) := by decide +kernel
theorem dX6_write_13 : decode cX6_write 13 = .ok (.iload_n 2, 1) := by decide +kernel
theorem dX6_write_14 : decode cX6_write 14 = .ok (.iastore, 1) := by decide +kernel
theorem dX6_write_15 : decode cX6_write 15 = .ok (.return_, 1) := by decide +kernel
theorem dX6_clear_0 : decode cX6_clear 0 = .ok (.iconst 0, 1) := by decide +kernel
theorem dX6_clear_1 : decode cX6_clear 1 = .ok (.istore_n 3, 1) := by decide +kernel
theorem dX6_clear_2 : decode cX6_clear 2 = .ok (.iload_n 3, 1) := by decide +kernel
theorem dX6_clear_3 : decode cX6_clear 3 = .ok (.iload_n 2, 1) := by decide +kernel
theorem dX6_clear_4 : decode cX6_clear 4 = .ok (.if_icmp .ge 17, 3) := by decide +kernel
theorem dX6_clear_7 : decode cX6_clear 7 = .ok (.aload_n 0, 1) := by decide +kernel
theorem dX6_clear_8 : decode cX6_clear 8 = .ok (.iload_n 1, 1) := by decide +kernel
theorem dX6_clear_9 : decode cX6_clear 9 = .ok (.iload_n 3, 1) := by decide +kernel
theorem dX6_clear_10 : decode cX6_clear 10 = .ok (.iadd, 1) := by decide +kernel
theorem dX6_clear_11 : decode cX6_clear 11 = .ok (.iconst 0, 1) := by decide +kernel
theorem dX6_clear_12 : decode cX6_clear 12 = .ok (.invokevirtual 17, 3) := by decide +kernel
theorem dX6_clear_15 : decode cX6_clear 15 = .ok (.iinc 3 1, 3) := by decide +kernel
theorem dX6_clear_18 : decode cX6_clear 18 = .ok (.goto (-16), 3) := by decide +kernel
theorem dX6_clear_21 : decode cX6_clear 21 = .ok (.return_, 1) := by decide +kernel
theorem dX6_move_0 : decode cX6_move 0 = .ok (.iload_n 3, 1) := by decide +kernel
theorem dX6_move_1 : decode cX6_move 1 = .ok (.ifCond .le 48, 3) := by decide +kernel
theorem dX6_move_4 : decode cX6_move 4 = .ok (.aload_n 0, 1) := by decide +kernel
theorem dX6_move_5 : decode cX6_move 5 = .ok (.iload_n 1, 1) := by decide +kernel
theorem dX6_move_6 : decode cX6_move 6 = .ok (.invokevirtual 13, 3) := by decide +kernel
theorem dX6_move_9 : decode cX6_move 9 = .ok (.ifCond .eq 40, 3) := by decide +kernel
theorem dX6_move_12 : decode cX6_move 12 = .ok (.aload_n 0, 1) := by decide +kernel
theorem dX6_move_13 : decode cX6_move 13 = .ok (.iload_n 2, 1) := by decide +kernel
theorem dX6_move_14 : decode cX6_move 14 = .ok (.invokevirtual 13, 3) := by decide +kernel
theorem dX6_move_17 : decode cX6_move 17 = .ok (.ifCond .eq 32, 3) := by decide +kernel
theorem dX6_move_20 : decode cX6_move 20 = .ok (.iload_n 3, 1) := by decide +kernel
theorem dX6_move_21 : decode cX6_move 21 = .ok (.aload_n 0, 1) := by decide +kernel
theorem dX6_move_22 : decode cX6_move 22 = .ok (.getfield 7, 3) := by decide +kernel
theorem dX6_move_25 : decode cX6_move 25 = .ok (.arraylength, 1) := by decide +kernel
theorem dX6_move_26 : decode cX6_move 26 = .ok (.iload_n 1, 1) := by decide +kernel
theorem dX6_move_27 : decode cX6_move 27 = .ok (.iload_n 2, 1) := by decide +kernel
theorem dX6_move_28 : decode cX6_move 28 = .ok (.invokestatic 21, 3) := by decide +kernel
theorem dX6_move_31 : decode cX6_move 31 = .ok (.isub, 1) := by decide +kernel
theorem dX6_move_32 : decode cX6_move 32 = .ok (.if_icmp .gt 17, 3) := by decide +kernel
theorem dX6_move_35 : decode cX6_move 35 = .ok (.aload_n 0, 1) := by decide +kernel
theorem dX6_move_36 : decode cX6_move 36 = .ok (.getfield 7, 3) := by decide +kernel
theorem dX6_move_39 : decode cX6_move 39 = .ok (.iload_n 1, 1) := by decide +kernel
theorem dX6_move_40 : decode cX6_move 40 = .ok (.aload_n 0, 1) := by decide +kernel
theorem dX6_move_41 : decode cX6_move 41 = .ok (.getfield 7, 3) := by decide +kernel
theorem dX6_move_44 : decode cX6_move 44 = .ok (.iload_n 2, 1) := by decide +kernel
theorem dX6_move_45 : decode cX6_move 45 = .ok (.iload_n 3, 1) := by decide +kernel
theorem dX6_move_46 : decode cX6_move 46 = .ok (.invokestatic 27, 3) := by decide +kernel
theorem dX6_move_49 : decode cX6_move 49 = .ok (.return_, 1) := by decide +kernel
theorem dX7_init_0 : decode cX7_init 0 = .ok (.aload_n 0, 1) := by decide +kernel
theorem dX7_init_1 : decode cX7_init 1 = .ok (.invokespecial 1, 3) := by decide +kernel
theorem dX7_init_4 : decode cX7_init 4 = .ok (.return_, 1) := by decide +kernel
theorem dX7_add_0 : decode cX7_add 0 = .ok (.aload_n 0, 1) := by decide +kernel
theorem dX7_add_1 : decode cX7_add 1 = .ok (.getfield 7, 3) := by decide +kernel
theorem dX7_add_4 : decode cX7_add 4 = .ok (.ifnonnull 11, 3) := by decide +kernel
theorem dX7_add_7 : decode cX7_add 7 = .ok (.aload_n 0, 1) := by decide +kernel
theorem dX7_add_8 : decode cX7_add 8 = .ok (.aload_n 1, 1) := by decide +kernel
theorem dX7_add_9 : decode cX7_add 9 = .ok (.putfield 13, 3) := by decide +kernel
theorem dX7_add_12 : decode cX7_add 12 = .ok (.goto 11, 3) := by decide +kernel
theorem dX7_add_15 : decode cX7_add 15 = .ok (.aload_n 0, 1) := by decide +kernel
theorem dX7_add_16 : decode cX7_add 16 = .ok (.getfield 7, 3) := by decide +kernel
theorem dX7_add_19 : decode cX7_add 19 = .ok (.aload_n 1, 1) := by decide +kernel
theorem dX7_add_20 : decode cX7_add 20 = .ok (.putfield 16, 3) := by decide +kernel
theorem dX7_add_23 : decode cX7_add 23 = .ok (.aload_n 0, 1) := by decide +kernel
theorem dX7_add_24 : decode cX7_add 24 = .ok (.aload_n 1, 1) := by decide +kernel
theorem dX7_add_25 : decode cX7_add 25 = .ok (.putfield 7, 3) := by decide +kernel
theorem dX7_add_28 : decode cX7_add 28 = .ok (.aload_n 0, 1) := by decide +kernel
theorem dX7_add_29 : decode cX7_add 29 = .ok (.dup, 1) := by decide +kernel
theorem dX7_add_30 : decode cX7_add 30 = .ok (.getfield 21, 3) := by decide +kernel
theorem dX7_add_33 : decode cX7_add 33 = .ok (.iconst 1, 1) := by decide +kernel
theorem dX7_add_34 : decode cX7_add 34 = .ok (.iadd, 1) := by decide +kernel
theorem dX7_add_35 : decode cX7_add 35 = .ok (.putfield 21, 3) := by decide +kernel
theorem dX7_add_38 : decode cX7_add 38 = .ok (.aload_n 0, 1) := by decide +kernel
theorem dX7_add_39 : decode cX7_add 39 = .ok (.dup, 1) := by decide +kernel
theorem dX7_add_40 : decode cX7_add 40 = .ok (.getfield 25, 3) := by decide +kernel
theorem dX7_add_43 : decode cX7_add 43 = .ok (.aload_n 1, 1) := by decide +kernel
theorem dX7_add_44 : decode cX7_add 44 = .ok (.getfield 28, 3) := by decide +kernel
theorem dX7_add_47 : decode cX7_add 47 = .ok (.iadd, 1) := by decide +kernel
theorem dX7_add_48 : decode cX7_add 48 = .ok (.putfield 25, 3) := by decide +kernel
theorem dX7_add_51 : decode cX7_add 51 = .ok (.return_, 1) := by decide +kernel
theorem dX7_takeFirst_0 : decode cX7_takeFirst 0 = .ok (.aload_n 0, 1) := by decide +kernel
theorem dX7_takeFirst_1 : decode cX7_takeFirst 1 = .ok (.getfield 13, 3) := by decide +kernel
theorem dX7_takeFirst_4 : decode cX7_takeFirst 4 = .ok (.astore_n 1, 1) := by decide +kernel
theorem dX7_takeFirst_5 : decode cX7_takeFirst 5 = .ok (.aload_n 1, 1) := by decide +kernel
theorem dX7_takeFirst_6 : decode cX7_takeFirst 6 = .ok (.ifnonnull 5, 3) := by decide +kernel
theorem dX7_takeFirst_9 : decode cX7_takeFirst 9 = .ok (.aconst_null, 1) := by decide +kernel
theorem dX7_takeFirst_10 : decode cX7_takeFirst 10 = .ok (.areturn, 1) := by decide +kernel
theorem dX7_takeFirst_11 : decode cX7_takeFirst 11 = .ok (.aload_n 0, 1) := by decide +kernel
theorem dX7_takeFirst_12 : decode cX7_takeFirst 12 = .ok (.aload_n 1, 1) := by decide +kernel
theorem dX7_takeFirst_13 : decode cX7_takeFirst 13 = .ok (.getfield 16, 3) := by decide +kernel
theorem dX7_takeFirst_16 : decode cX7_takeFirst 16 = .ok (.putfield 13, 3) := by decide +kernel
theorem dX7_takeFirst_19 : decode cX7_takeFirst 19 = .ok (.aload_n 0, 1) := by decide +kernel
theorem dX7_takeFirst_20 : decode cX7_takeFirst 20 = .ok (.getfield 13, 3) := by decide +kernel
theorem dX7_takeFirst_23 : decode cX7_takeFirst 23 = .ok (.ifnonnull 8, 3) := by decide +kernel
theorem dX7_takeFirst_26 : decode cX7_takeFirst 26 = .ok (.aload_n 0, 1) := by decide +kernel
theorem dX7_takeFirst_27 : decode cX7_takeFirst 27 = .ok (.aconst_null, 1) := by decide +kernel
theorem dX7_takeFirst_28 : decode cX7_takeFirst 28 = .ok (.putfield 7, 3) := by decide +kernel
theorem dX7_takeFirst_31 : decode cX7_takeFirst 31 = .ok (.aload_n 1, 1) := by decide +kernel
theorem dX7_takeFirst_32 : decode cX7_takeFirst 32 = .ok (.aconst_null, 1) := by decide +kernel
theorem dX7_takeFirst_33 : decode cX7_takeFirst 33 = .ok (.putfield 16, 3) := by decide +kernel
theorem dX7_takeFirst_36 : decode cX7_takeFirst 36 = .ok (.aload_n 0, 1) := by decide +kernel
theorem dX7_takeFirst_37 : decode cX7_takeFirst 37 = .ok (.dup, 1) := by decide +kernel
theorem dX7_takeFirst_38 : decode cX7_takeFirst 38 = .ok (.getfield 21, 3) := by decide +kernel
theorem dX7_takeFirst_41 : decode cX7_takeFirst 41 = .ok (.iconst 1, 1) := by decide +kernel
theorem dX7_takeFirst_42 : decode cX7_takeFirst 42 = .ok (.isub, 1) := by decide +kernel
theorem dX7_takeFirst_43 : decode cX7_takeFirst 43 = .ok (.putfield 21, 3) := by decide +kernel
theorem dX7_takeFirst_46 : decode cX7_takeFirst 46 = .ok (.aload_n 0, 1) := by decide +kernel
theorem dX7_takeFirst_47 : decode cX7_takeFirst 47 = .ok (.dup, 1) := by decide +kernel
theorem dX7_takeFirst_48 : decode cX7_takeFirst 48 = .ok (.getfield 25, 3) := by decide +kernel
theorem dX7_takeFirst_51 : decode cX7_takeFirst 51 = .ok (.aload_n 1, 1) := by decide +kernel
theorem dX7_takeFirst_52 : decode cX7_takeFirst 52 = .ok (.getfield 28, 3) := by decide +kernel
theorem dX7_takeFirst_55 : decode cX7_takeFirst 55 = .ok (.isub, 1) := by decide +kernel
theorem dX7_takeFirst_56 : decode cX7_takeFirst 56 = .ok (.putfield 25, 3) := by decide +kernel
theorem dX7_takeFirst_59 : decode cX7_takeFirst 59 = .ok (.aload_n 1, 1) := by decide +kernel
theorem dX7_takeFirst_60 : decode cX7_takeFirst 60 = .ok (.areturn, 1) := by decide +kernel
theorem dX7_behindFirst_0 : decode cX7_behindFirst 0 = .ok (.iload_n 1, 1) := by decide +kernel
theorem dX7_behindFirst_1 : decode cX7_behindFirst 1 = .ok (.ifCond .lt 11, 3) := by decide +kernel
theorem dX7_behindFirst_4 : decode cX7_behindFirst 4 = .ok (.iload_n 1, 1) := by decide +kernel
theorem dX7_behindFirst_5 : decode cX7_behindFirst 5 = .ok (.aload_n 0, 1) := by decide +kernel
theorem dX7_behindFirst_6 : decode cX7_behindFirst 6 = .ok (.getfield 21, 3) := by decide +kernel
theorem dX7_behindFirst_9 : decode cX7_behindFirst 9 = .ok (.if_icmp .lt 5, 3) := by decide +kernel
theorem dX7_behindFirst_12 : decode cX7_behindFirst 12 = .ok (.aconst_null, 1) := by decide +kernel
theorem dX7_behindFirst_13 : decode cX7_behindFirst 13 = .ok (.areturn, 1) := by decide +kernel
theorem dX7_behindFirst_14 : decode cX7_behindFirst 14 = .ok (.aload_n 0, 1) := by decide +kernel
theorem dX7_behindFirst_15 : decode cX7_behindFirst 15 = .ok (.getfield 13, 3) := by decide +kernel
theorem dX7_behindFirst_18 : decode cX7_behindFirst 18 = .ok (.astore_n 2, 1) := by decide +kernel
theorem dX7_behindFirst_19 : decode cX7_behindFirst 19 = .ok (.iconst 0, 1) := by decide +kernel
theorem dX7_behindFirst_20 : decode cX7_behindFirst 20 = .ok (.istore_n 3, 1) := by decide +kernel
theorem dX7_behindFirst_21 : decode cX7_behindFirst 21 = .ok (.iload_n 3, 1) := by decide +kernel
theorem dX7_behindFirst_22 : decode cX7_behindFirst 22 = .ok (.iload_n 1, 1) := by decide +kernel
theorem dX7_behindFirst_23 : decode cX7_behindFirst 23 = .ok (.if_icmp .ge 18, 3) := by decide +kernel
theorem dX7_behindFirst_26 : decode cX7_behindFirst 26 = .ok (.aload_n 2, 1) := by decide +kernel
theorem dX7_behindFirst_27 : decode cX7_behindFirst 27 = .ok (.ifnull 14, 3) := by decide +kernel
theorem dX7_behindFirst_30 : decode cX7_behindFirst 30 = .ok (.aload_n 2, 1) := by decide +kernel
theorem dX7_behindFirst_31 : decode cX7_behindFirst 31 = .ok (.getfield 16, 3) := by decide +kernel
theorem dX7_behindFirst_34 : decode cX7_behindFirst 34 = .ok (.astore_n 2, 1) := by decide +kernel
theorem dX7_behindFirst_35 : decode cX7_behindFirst 35 = .ok (.iinc 3 1, 3) := by decide +kernel
theorem dX7_behindFirst_38 : decode cX7_behindFirst 38 = .ok (.goto (-17), 3) := by decide +kernel
theorem dX7_behindFirst_41 : decode cX7_behindFirst 41 = .ok (.aload_n 2, 1) := by decide +kernel
theorem dX7_behindFirst_42 : decode cX7_behindFirst 42 = .ok (.areturn, 1) := by decide +kernel
theorem dJ9_floorMod_7cf53_0 : decode cJ9_floorMod_7cf53 0 = .ok (.iload_n 0, 1) := by decide +kernel
theorem dJ9_floorMod_7cf53_1 : decode cJ9_floorMod_7cf53 1 = .ok (.iload_n 1, 1) := by decide +kernel
theorem dJ9_floorMod_7cf53_2 : decode cJ9_floorMod_7cf53 2 = .ok (.irem, 1) := by decide +kernel
theorem dJ9_floorMod_7cf53_3 : decode cJ9_floorMod_7cf53 3 = .ok (.istore_n 2, 1) := by decide +kernel
theorem dJ9_floorMod_7cf53_4 : decode cJ9_floorMod_7cf53 4 = .ok (.iload_n 0, 1) := by decide +kernel
theorem dJ9_floorMod_7cf53_5 : decode cJ9_floorMod_7cf53 5 = .ok (.iload_n 1, 1) := by decide +kernel
theorem dJ9_floorMod_7cf53_6 : decode cJ9_floorMod_7cf53 6 = .ok (.ixor, 1) := by decide +kernel
theorem dJ9_floorMod_7cf53_7 : decode cJ9_floorMod_7cf53 7 = .ok (.ifCond .ge 11, 3) := by decide +kernel
theorem dJ9_floorMod_7cf53_10 : decode cJ9_floorMod_7cf53 10 = .ok (.iload_n 2, 1) := by decide +kernel
theorem dJ9_floorMod_7cf53_11 : decode cJ9_floorMod_7cf53 11 = .ok (.ifCond .eq 7, 3) := by decide +kernel
theorem dJ9_floorMod_7cf53_14 : decode cJ9_floorMod_7cf53 14 = .ok (.iload_n 2, 1) := by decide +kernel
theorem dJ9_floorMod_7cf53_15 : decode cJ9_floorMod_7cf53 15 = .ok (.iload_n 1, 1) := by decide +kernel
theorem dJ9_floorMod_7cf53_16 : decode cJ9_floorMod_7cf53 16 = .ok (.iadd, 1) := by decide +kernel
theorem dJ9_floorMod_7cf53_17 : decode cJ9_floorMod_7cf53 17 = .ok (.ireturn, 1) := by decide +kernel
theorem dJ9_floorMod_7cf53_18 : decode cJ9_floorMod_7cf53 18 = .ok (.iload_n 2, 1) := by decide +kernel
theorem dJ9_floorMod_7cf53_19 : decode cJ9_floorMod_7cf53 19 = .ok (.ireturn, 1) := by decide +kernel
theorem dJ9_max_7cf53_0 : decode cJ9_max_7cf53 0 = .ok (.iload_n 0, 1) := by decide +kernel
theorem dJ9_max_7cf53_1 : decode cJ9_max_7cf53 1 = .ok (.iload_n 1, 1) := by decide +kernel
theorem dJ9_max_7cf53_2 : decode cJ9_max_7cf53 2 = .ok (.if_icmp .lt 7, 3) := by decide +kernel
theorem dJ9_max_7cf53_5 : decode cJ9_max_7cf53 5 = .ok (.iload_n 0, 1) := by decide +kernel
theorem dJ9_max_7cf53_6 : decode cJ9_max_7cf53 6 = .ok (.goto 4, 3) := by decide +kernel
theorem dJ9_max_7cf53_9 : decode cJ9_max_7cf53 9 = .ok (.iload_n 1, 1) := by decide +kernel
theorem dJ9_max_7cf53_10 : decode cJ9_max_7cf53 10 = .ok (.ireturn, 1) := by decide +kernel
theorem dJ9_min_7cf53_0 : decode cJ9_min_7cf53 0 = .ok (.iload_n 0, 1) := by decide +kernel
theorem dJ9_min_7cf53_1 : decode cJ9_min_7cf53 1 = .ok (.iload_n 1, 1) := by decide +kernel
theorem dJ9_min_7cf53_2 : decode cJ9_min_7cf53 2 = .ok (.if_icmp .gt 7, 3) := by decide +kernel
theorem dJ9_min_7cf53_5 : decode cJ9_min_7cf53 5 = .ok (.iload_n 0, 1) := by decide +kernel
theorem dJ9_min_7cf53_6 : decode cJ9_min_7cf53 6 = .ok (.goto 4, 3) := by decide +kernel
theorem dJ9_min_7cf53_9 : decode cJ9_min_7cf53 9 = .ok (.iload_n 1, 1) := by decide +kernel
theorem dJ9_min_7cf53_10 : decode cJ9_min_7cf53 10 = .ok (.ireturn, 1) := by decide +kernel
theorem sgX0_init_0 {X : CX} {d mc ms cells slots : Nat} {pp : Hp → Prop} {h : Hp} {t : Nat} {x1 : Int32} {x2 : Int32} {x3 : Int32} {x4 : Int32} {x5 : Int32}  (C : CmV X mX0_init d mc ms pp) (hc : cells ≤ mc) (hs : slots ≤ ms) (hr1 : 1 ≤ d) (h0 : h.K t = 1) (k0 : pp ((((((h.sI 0 t x1).sI 1 t x2).sI 2 t x3).sI 3 t x4).sI 4 t x5).sI 5 t 1)) : At X cells slots 0 [some (va_rf (some t)), some (.int x1), some (.int x2), some (.int x3), some (.int x4), some (.int x5)] [] h := by
  refine st_aload_n (pc := 0) C.1 (some t) dX0_init_0 rfl rfl ?_
  refine st_objInit (pc := 1) C.1 wM_RX0_1 wObjI wObjC dX0_init_1 (by rw [C.2.2.1]; exact hr1) (by rw [C.2.2.1]; exact Nat.le_trans (Nat.le_of_ble_eq_true rfl) (Nat.mul_le_mul_left 30 hr1)) ?_
  refine st_aload_n (pc := 4) C.1 (some t) dX0_init_4 rfl rfl ?_
  refine st_iload_n (pc := 5) C.1 dX0_init_5 rfl rfl ?_
  refine pI_RX0_7 (pc := 6) C.1 dX0_init_6 h0 C.2.2.2.2.1 ?_
  refine st_aload_n (pc := 9) C.1 (some t) dX0_init_9 rfl rfl ?_
  refine st_iload_n (pc := 10) C.1 dX0_init_10 rfl rfl ?_
  refine pI_RX0_13 (pc := 11) C.1 dX0_init_11 h0 C.2.2.2.2.1 ?_
  refine st_aload_n (pc := 14) C.1 (some t) dX0_init_14 rfl rfl ?_
  refine st_iload_n (pc := 15) C.1 dX0_init_15 rfl rfl ?_
  refine pI_RX0_16 (pc := 16) C.1 dX0_init_16 h0 C.2.2.2.2.1 ?_
  refine st_aload_n (pc := 19) C.1 (some t) dX0_init_19 rfl rfl ?_
  refine st_iload (pc := 20) C.1 dX0_init_20 rfl ?_
  refine pI_RX0_19 (pc := 22) C.1 dX0_init_22 h0 C.2.2.2.2.1 ?_
  refine st_aload_n (pc := 25) C.1 (some t) dX0_init_25 rfl rfl ?_
  refine st_iload (pc := 26) C.1 dX0_init_26 rfl ?_
  refine pI_RX0_22 (pc := 28) C.1 dX0_init_28 h0 C.2.2.2.2.1 ?_
  refine st_aload_n (pc := 31) C.1 (some t) dX0_init_31 rfl rfl ?_
  refine st_iconst (pc := 32) (v := 1) C.1 dX0_init_32 (by decide) ?_
  refine pI_RX0_25 (pc := 33) C.1 dX0_init_33 h0 (Or.inr rfl) ?_
  exact rt_v C rfl dX0_init_36 hc hs ⟨rfl, k0⟩

theorem sgX0_hasWord_0 {X : CX} {d mc ms cells slots : Nat} {pp : Int32 → Hp → Prop} {h : Hp} {t : Nat} {x1 : Int32}  (C : CmI X mX0_hasWord d mc ms pp) (hc : cells ≤ mc) (hs : slots ≤ ms) (h0 : h.K t = 1) (k0 : x1 < h.I 2 t → pp 0 h) (k1 : ¬ x1 < h.I 2 t → (h.I 2 t) + (h.I 3 t) ≤ x1 → pp 0 h) (k2 : ¬ x1 < h.I 2 t → ¬ (h.I 2 t) + (h.I 3 t) ≤ x1 → pp 1 h) : At X cells slots 0 [some (va_rf (some t)), some (.int x1)] [] h := by
  refine st_iload_n (pc := 0) C.1 dX0_hasWord_0 rfl rfl ?_
  refine st_aload_n (pc := 1) C.1 (some t) dX0_hasWord_1 rfl rfl ?_
  refine gI_RX0_16 (pc := 2) C.1 (h.I 2 t) dX0_hasWord_2 h0 rfl ?_
  refine st_icmp_lt (pc := 5) (tgt := 25) C.1 dX0_hasWord_5 (by decide) (fun c0 => ?_) (fun c0 => ?_)
  · refine st_iconst (pc := 25) (v := 0) C.1 dX0_hasWord_25 (by decide) ?_
    exact rt_i C (Or.inr ⟨rfl, (Or.inl rfl)⟩) dX0_hasWord_26 hc hs ⟨_, rfl, (k0 c0)⟩
  · refine st_iload_n (pc := 8) C.1 dX0_hasWord_8 rfl rfl ?_
    refine st_aload_n (pc := 9) C.1 (some t) dX0_hasWord_9 rfl rfl ?_
    refine gI_RX0_16 (pc := 10) C.1 (h.I 2 t) dX0_hasWord_10 h0 rfl ?_
    refine st_aload_n (pc := 13) C.1 (some t) dX0_hasWord_13 rfl rfl ?_
    refine gI_RX0_19 (pc := 14) C.1 (h.I 3 t) dX0_hasWord_14 h0 rfl ?_
    refine st_iadd (pc := 17) C.1 dX0_hasWord_17 ?_
    refine st_icmp_ge (pc := 18) (tgt := 25) C.1 dX0_hasWord_18 (by decide) (fun c1 => ?_) (fun c1 => ?_)
    · refine st_iconst (pc := 25) (v := 0) C.1 dX0_hasWord_25 (by decide) ?_
      exact rt_i C (Or.inr ⟨rfl, (Or.inl rfl)⟩) dX0_hasWord_26 hc hs ⟨_, rfl, (k1 c0 c1)⟩
    · refine st_iconst (pc := 21) (v := 1) C.1 dX0_hasWord_21 (by decide) ?_
      refine st_goto (pc := 22) (tgt := 26) C.1 dX0_hasWord_22 (by decide) ?_
      exact rt_i C (Or.inr ⟨rfl, (Or.inr rfl)⟩) dX0_hasWord_26 hc hs ⟨_, rfl, (k2 c0 c1)⟩

theorem sgX1_init_0 {X : CX} {d mc ms cells slots : Nat} {pp : Hp → Prop} {h : Hp} {t : Nat} {x1 : Int32}  (C : CmV X mX1_init d mc ms pp) (hr1 : 1 ≤ d)  (k0 : At X cells slots 6 [some (va_rf (some t)), some (.int x1)] [.int x1, va_rf (some t)] h) : At X cells slots 0 [some (va_rf (some t)), some (.int x1)] [] h := by
  refine st_aload_n (pc := 0) C.1 (some t) dX1_init_0 rfl rfl ?_
  refine st_objInit (pc := 1) C.1 wM_RX1_3 wObjI wObjC dX1_init_1 (by rw [C.2.2.1]; exact hr1) (by rw [C.2.2.1]; exact Nat.le_trans (Nat.le_of_ble_eq_true rfl) (Nat.mul_le_mul_left 30 hr1)) ?_
  refine st_aload_n (pc := 4) C.1 (some t) dX1_init_4 rfl rfl ?_
  refine st_iload_n (pc := 5) C.1 dX1_init_5 rfl rfl ?_
  exact k0

theorem sgX1_init_9 {X : CX} {d mc ms cells slots : Nat} {pp : Hp → Prop} {h : Hp} {t : Nat} {x1 : Int32} {p0 : Option Nat} {q1 : Nat}  (C : CmV X mX1_init d mc ms pp) (hc : cells ≤ mc) (hs : slots ≤ ms) (h0 : h.K q1 = 2) (k0 : pp (h.sR 100 q1 p0)) : At X cells slots 9 [some (va_rf (some t)), some (.int x1)] [va_rf p0, va_rf (some q1)] h := by
  refine pR_RX1_11 (pc := 9) C.1 p0 dX1_init_9 h0 C.2.2.2.2.1 ?_
  exact rt_v C rfl dX1_init_12 hc hs ⟨rfl, k0⟩

theorem nwX1_init_6 {X : CX} {d0 mc0 ms0 cells slots : Nat} {pp : Hp → Prop} {h : Hp} {ls : List (Option Value)} {st : List Value} {n : Int32} (C : CmV X mX1_init d0 mc0 ms0 pp) (hn : ¬ n < 0) (hb : n.toNatClampNeg ≤ 60000000) (hmc : cells + 1 ≤ mc0) (hms : slots + n.toNatClampNeg ≤ ms0) (kk : ∀ q, h.K q = 0 → At X (cells + 1) (slots + n.toNatClampNeg) 9 ls (va_rf (some q) :: st) (h.nw q 13 n.toNatClampNeg)) : At X cells slots 6 ls (.int n :: st) h :=
  st_anewarray (pc := 6) C.1 13 2 (R := RX0) (by simp) wK_RX1_9 dX1_init_6 hn hb (by rw [C.2.2.1]; exact hmc) (by rw [C.2.2.1]; exact hms) kk
theorem sgX1_at_0 {X : CX} {d mc ms cells slots : Nat} {pp : Option Nat → Hp → Prop} {h : Hp} {t : Nat} {x1 : Int32} {r0 : Nat} (C : CmR X mX1_at d mc ms pp) (hc : cells ≤ mc) (hs : slots ≤ ms) (h0 : h.K t = 2) (h1 : h.R 100 t = some r0) (h2 : h.K r0 = 13) (h3 : 1 ≤ x1 → ¬ nI (h.N r0) ≤ (x1 - 1) / 4 → vp_in ((x1 - 1) / 4) (h.N r0)) (k0 : 1 ≤ x1 → nI (h.N r0) ≤ (x1 - 1) / 4 → pp none h) (k1 : 1 ≤ x1 → ¬ nI (h.N r0) ≤ (x1 - 1) / 4 → pp (h.AR r0 (((x1 - 1) / 4).toNatClampNeg)) h) (k2 : ¬ 1 ≤ x1 → pp none h) : At X cells slots 0 [some (va_rf (some t)), some (.int x1), none] [] h := by
  refine st_iload_n (pc := 0) C.1 dX1_at_0 rfl rfl ?_
  refine st_iconst (pc := 1) (v := 1) C.1 dX1_at_1 (by decide) ?_
  refine st_icmp_ge (pc := 2) (tgt := 7) C.1 dX1_at_2 (by decide) (fun c0 => ?_) (fun c0 => ?_)
  · refine st_iload_n (pc := 7) C.1 dX1_at_7 rfl rfl ?_
    refine st_iconst (pc := 8) (v := 1) C.1 dX1_at_8 (by decide) ?_
    refine st_isub (pc := 9) C.1 dX1_at_9 ?_
    refine st_iconst (pc := 10) (v := 4) C.1 dX1_at_10 (by decide) ?_
    refine st_idiv (pc := 11) C.1 dX1_at_11 (by decide) ?_
    refine sv_istore_n (pc := 12) (i := 2) C.1 [some (va_rf (some t)), some (.int x1), some (.int ((x1 - 1) / 4))] dX1_at_12 rfl (Nat.le_of_ble_eq_true rfl) (by rw [C.2.1]; exact Nat.le_of_ble_eq_true rfl) rfl rfl ?_
    refine st_iload_n (pc := 13) C.1 dX1_at_13 rfl rfl ?_
    refine st_aload_n (pc := 14) C.1 (some t) dX1_at_14 rfl rfl ?_
    refine gR_RX1_11 (pc := 15) C.1 (some r0) dX1_at_15 h0 h1 ?_
    refine st_alen (pc := 18) C.1 dX1_at_18 (Or.inr (Or.inr (Or.inl h2))) ?_
    refine st_icmp_ge (pc := 19) (tgt := 31) C.1 dX1_at_19 (by decide) (fun c1 => ?_) (fun c1 => ?_)
    · refine st_nullq (pc := 31) C.1 dX1_at_31 ?_
      exact rt_a C none rfl dX1_at_32 hc hs ⟨_, rfl, (k0 c0 c1)⟩
    · refine st_aload_n (pc := 22) C.1 (some t) dX1_at_22 rfl rfl ?_
      refine gR_RX1_11 (pc := 23) C.1 (some r0) dX1_at_23 h0 h1 ?_
      refine st_iload_n (pc := 26) C.1 dX1_at_26 rfl rfl ?_
      refine sv_aaload (pc := 27) C.1 (h.AR r0 (((x1 - 1) / 4).toNatClampNeg)) dX1_at_27 (Or.inl h2) (h3 c0 c1) rfl ?_
      refine st_goto (pc := 28) (tgt := 32) C.1 dX1_at_28 (by decide) ?_
      exact rt_a C (h.AR r0 (((x1 - 1) / 4).toNatClampNeg)) rfl dX1_at_32 hc hs ⟨_, rfl, (k1 c0 c1)⟩
  · refine st_nullq (pc := 5) C.1 dX1_at_5 ?_
    exact rt_a C none rfl dX1_at_6 hc hs ⟨_, rfl, (k2 c0)⟩

theorem sgX1_startingAt_0 {X : CX} {d mc ms cells slots : Nat} {pp : Option Nat → Hp → Prop} {h : Hp} {t : Nat} {x1 : Int32}  (C : CmR X mX1_startingAt d mc ms pp)  (k0 : At X cells slots 2 [some (va_rf (some t)), some (.int x1), none] [.int x1, va_rf (some t)] h) : At X cells slots 0 [some (va_rf (some t)), some (.int x1), none] [] h := by
  refine st_aload_n (pc := 0) C.1 (some t) dX1_startingAt_0 rfl rfl ?_
  refine st_iload_n (pc := 1) C.1 dX1_startingAt_1 rfl rfl ?_
  exact k0

theorem sgX1_startingAt_5 {X : CX} {d mc ms cells slots : Nat} {pp : Option Nat → Hp → Prop} {h : Hp} {t : Nat} {x1 : Int32} {p0 : Option Nat}  (C : CmR X mX1_startingAt d mc ms pp) (hc : cells ≤ mc) (hs : slots ≤ ms) (h0 : ∀ z0 : Nat, p0 = some z0 → h.K z0 = 1) (k0 : p0 = none → pp none h) (k1 : ∀ z0 : Nat, p0 = some z0 → ¬ h.I 2 z0 = x1 → pp none h) (k2 : ∀ z0 : Nat, p0 = some z0 → h.I 2 z0 = x1 → pp (some z0) h) : At X cells slots 5 [some (va_rf (some t)), some (.int x1), none] [va_rf p0] h := by
  refine sv_astore_n (pc := 5) (i := 2) C.1 [some (va_rf (some t)), some (.int x1), some (va_rf p0)] p0 dX1_startingAt_5 rfl (Nat.le_of_ble_eq_true rfl) (by rw [C.2.1]; exact Nat.le_of_ble_eq_true rfl) rfl rfl ?_
  refine st_aload_n (pc := 6) C.1 p0 dX1_startingAt_6 rfl rfl ?_
  refine st_ifnull (pc := 7) (o := p0) (tgt := 22) C.1 dX1_startingAt_7 (by decide) (fun c0 => ?_) (fun z0 c0 => ?_)
  · try rw [c0]
    refine st_nullq (pc := 22) C.1 dX1_startingAt_22 ?_
    exact rt_a C none rfl dX1_startingAt_23 hc hs ⟨_, rfl, (k0 c0)⟩
  · try rw [c0]
    refine st_aload_n (pc := 10) C.1 (some z0) dX1_startingAt_10 rfl rfl ?_
    refine gI_RX1_21 (pc := 11) C.1 (h.I 2 z0) dX1_startingAt_11 (h0 z0 c0) rfl ?_
    refine st_iload_n (pc := 14) C.1 dX1_startingAt_14 rfl rfl ?_
    refine st_icmp_ne (pc := 15) (tgt := 22) C.1 dX1_startingAt_15 (by decide) (fun c1 => ?_) (fun c1 => ?_)
    · refine st_nullq (pc := 22) C.1 dX1_startingAt_22 ?_
      exact rt_a C none rfl dX1_startingAt_23 hc hs ⟨_, rfl, (k1 z0 c0 c1)⟩
    · refine st_aload_n (pc := 18) C.1 (some z0) dX1_startingAt_18 rfl rfl ?_
      refine st_goto (pc := 19) (tgt := 23) C.1 dX1_startingAt_19 (by decide) ?_
      exact rt_a C (some z0) rfl dX1_startingAt_23 hc hs ⟨_, rfl, (k2 z0 c0 c1)⟩

theorem clX1_startingAt_2 {X : CX} {d0 mc0 ms0 d mc ms cells slots : Nat} {pp : Option Nat → Hp → Prop} {h : Hp} {ls : List (Option Value)} {rest : List Value} {b : Nat} {a0 : Value} {post : Option Nat → Hp → Prop} (C : CmR X mX1_startingAt d0 mc0 ms0 pp) (hct : CtR mX1_at d mc ms [va_rf (some b), a0] h post) (hK : h.K b = 2) (hdd : d < d0) (hmc : cells + mc ≤ mc0) (hms : slots + ms ≤ ms0) (hcat : (rest.map fun v => v.category).sum ≤ 8) (kk : ∀ o h', post o h' → At X (cells + mc) (slots + ms) 5 ls (va_rf o :: rest) h') : At X cells slots 2 ls (a0 :: va_rf (some b) :: rest) h :=
  st_callV (pc := 2) (M := mX1_at) (idx := 17) (As := [a0]) C.1 C.2.2.1 C.2.2.2.2.2.2 ⟨wM_RX1_17, wC_X1_at, wI_RX1, by decide +kernel, by decide⟩ wV_X1_at wS_X1_at (ci := 1) (n := 1) rfl rfl (by decide) dX1_startingAt_2 rfl hdd hcat hK hct hmc hms (fun v h2 hp => by obtain ⟨o, rfl, hp⟩ := hp; exact kk o h2 hp)
theorem sgX1_liveStartingAt_0 {X : CX} {d mc ms cells slots : Nat} {pp : Option Nat → Hp → Prop} {h : Hp} {t : Nat} {x1 : Int32}  (C : CmR X mX1_liveStartingAt d mc ms pp)  (k0 : At X cells slots 2 [some (va_rf (some t)), some (.int x1), none] [.int x1, va_rf (some t)] h) : At X cells slots 0 [some (va_rf (some t)), some (.int x1), none] [] h := by
  refine st_aload_n (pc := 0) C.1 (some t) dX1_liveStartingAt_0 rfl rfl ?_
  refine st_iload_n (pc := 1) C.1 dX1_liveStartingAt_1 rfl rfl ?_
  exact k0

theorem sgX1_liveStartingAt_5 {X : CX} {d mc ms cells slots : Nat} {pp : Option Nat → Hp → Prop} {h : Hp} {t : Nat} {x1 : Int32} {p0 : Option Nat}  (C : CmR X mX1_liveStartingAt d mc ms pp) (hc : cells ≤ mc) (hs : slots ≤ ms) (h0 : ∀ z0 : Nat, p0 = some z0 → h.K z0 = 1) (k0 : p0 = none → pp none h) (k1 : ∀ z0 : Nat, p0 = some z0 → h.I 5 z0 = 0 → pp none h) (k2 : ∀ z0 : Nat, p0 = some z0 → ¬ h.I 5 z0 = 0 → pp (some z0) h) : At X cells slots 5 [some (va_rf (some t)), some (.int x1), none] [va_rf p0] h := by
  refine sv_astore_n (pc := 5) (i := 2) C.1 [some (va_rf (some t)), some (.int x1), some (va_rf p0)] p0 dX1_liveStartingAt_5 rfl (Nat.le_of_ble_eq_true rfl) (by rw [C.2.1]; exact Nat.le_of_ble_eq_true rfl) rfl rfl ?_
  refine st_aload_n (pc := 6) C.1 p0 dX1_liveStartingAt_6 rfl rfl ?_
  refine st_ifnull (pc := 7) (o := p0) (tgt := 21) C.1 dX1_liveStartingAt_7 (by decide) (fun c0 => ?_) (fun z0 c0 => ?_)
  · try rw [c0]
    refine st_nullq (pc := 21) C.1 dX1_liveStartingAt_21 ?_
    exact rt_a C none rfl dX1_liveStartingAt_22 hc hs ⟨_, rfl, (k0 c0)⟩
  · try rw [c0]
    refine st_aload_n (pc := 10) C.1 (some z0) dX1_liveStartingAt_10 rfl rfl ?_
    refine gI_RX1_28 (pc := 11) C.1 (h.I 5 z0) dX1_liveStartingAt_11 (h0 z0 c0) rfl ?_
    refine st_if_eq (pc := 14) (tgt := 21) C.1 dX1_liveStartingAt_14 (by decide) (fun c1 => ?_) (fun c1 => ?_)
    · refine st_nullq (pc := 21) C.1 dX1_liveStartingAt_21 ?_
      exact rt_a C none rfl dX1_liveStartingAt_22 hc hs ⟨_, rfl, (k1 z0 c0 c1)⟩
    · refine st_aload_n (pc := 17) C.1 (some z0) dX1_liveStartingAt_17 rfl rfl ?_
      refine st_goto (pc := 18) (tgt := 22) C.1 dX1_liveStartingAt_18 (by decide) ?_
      exact rt_a C (some z0) rfl dX1_liveStartingAt_22 hc hs ⟨_, rfl, (k2 z0 c0 c1)⟩

theorem clX1_liveStartingAt_2 {X : CX} {d0 mc0 ms0 d mc ms cells slots : Nat} {pp : Option Nat → Hp → Prop} {h : Hp} {ls : List (Option Value)} {rest : List Value} {b : Nat} {a0 : Value} {post : Option Nat → Hp → Prop} (C : CmR X mX1_liveStartingAt d0 mc0 ms0 pp) (hct : CtR mX1_startingAt d mc ms [va_rf (some b), a0] h post) (hK : h.K b = 2) (hdd : d < d0) (hmc : cells + mc ≤ mc0) (hms : slots + ms ≤ ms0) (hcat : (rest.map fun v => v.category).sum ≤ 8) (kk : ∀ o h', post o h' → At X (cells + mc) (slots + ms) 5 ls (va_rf o :: rest) h') : At X cells slots 2 ls (a0 :: va_rf (some b) :: rest) h :=
  st_callV (pc := 2) (M := mX1_startingAt) (idx := 25) (As := [a0]) C.1 C.2.2.1 C.2.2.2.2.2.2 ⟨wM_RX1_25, wC_X1_startingAt, wI_RX1, by decide +kernel, by decide⟩ wV_X1_startingAt wS_X1_startingAt (ci := 1) (n := 1) rfl rfl (by decide) dX1_liveStartingAt_2 rfl hdd hcat hK hct hmc hms (fun v h2 hp => by obtain ⟨o, rfl, hp⟩ := hp; exact kk o h2 hp)
theorem sgX1_ledToBy_0 {X : CX} {d mc ms cells slots : Nat} {pp : Option Nat → Hp → Prop} {h : Hp} {t : Nat} {x1 : Int32}  (C : CmR X mX1_ledToBy d mc ms pp)  (k0 : At X cells slots 2 [some (va_rf (some t)), some (.int x1), none] [.int x1, va_rf (some t)] h) : At X cells slots 0 [some (va_rf (some t)), some (.int x1), none] [] h := by
  refine st_aload_n (pc := 0) C.1 (some t) dX1_ledToBy_0 rfl rfl ?_
  refine st_iload_n (pc := 1) C.1 dX1_ledToBy_1 rfl rfl ?_
  exact k0

theorem sgX1_ledToBy_5 {X : CX} {d mc ms cells slots : Nat} {pp : Option Nat → Hp → Prop} {h : Hp} {t : Nat} {x1 : Int32} {p0 : Option Nat}  (C : CmR X mX1_ledToBy d mc ms pp) (hc : cells ≤ mc) (hs : slots ≤ ms) (h0 : ∀ z0 : Nat, p0 = some z0 → h.K z0 = 1) (k0 : p0 = none → pp none h) (k1 : ∀ z0 : Nat, p0 = some z0 → h.I 5 z0 = 0 → pp none h) (k2 : ∀ z0 : Nat, p0 = some z0 → ¬ h.I 5 z0 = 0 → At X cells slots 19 [some (va_rf (some t)), some (.int x1), some (va_rf (some z0))] [.int x1, va_rf (some z0)] h) : At X cells slots 5 [some (va_rf (some t)), some (.int x1), none] [va_rf p0] h := by
  refine sv_astore_n (pc := 5) (i := 2) C.1 [some (va_rf (some t)), some (.int x1), some (va_rf p0)] p0 dX1_ledToBy_5 rfl (Nat.le_of_ble_eq_true rfl) (by rw [C.2.1]; exact Nat.le_of_ble_eq_true rfl) rfl rfl ?_
  refine st_aload_n (pc := 6) C.1 p0 dX1_ledToBy_6 rfl rfl ?_
  refine st_ifnull (pc := 7) (o := p0) (tgt := 29) C.1 dX1_ledToBy_7 (by decide) (fun c0 => ?_) (fun z0 c0 => ?_)
  · try rw [c0]
    refine st_nullq (pc := 29) C.1 dX1_ledToBy_29 ?_
    exact rt_a C none rfl dX1_ledToBy_30 hc hs ⟨_, rfl, (k0 c0)⟩
  · try rw [c0]
    refine st_aload_n (pc := 10) C.1 (some z0) dX1_ledToBy_10 rfl rfl ?_
    refine gI_RX1_28 (pc := 11) C.1 (h.I 5 z0) dX1_ledToBy_11 (h0 z0 c0) rfl ?_
    refine st_if_eq (pc := 14) (tgt := 29) C.1 dX1_ledToBy_14 (by decide) (fun c1 => ?_) (fun c1 => ?_)
    · refine st_nullq (pc := 29) C.1 dX1_ledToBy_29 ?_
      exact rt_a C none rfl dX1_ledToBy_30 hc hs ⟨_, rfl, (k1 z0 c0 c1)⟩
    · refine st_aload_n (pc := 17) C.1 (some z0) dX1_ledToBy_17 rfl rfl ?_
      refine st_iload_n (pc := 18) C.1 dX1_ledToBy_18 rfl rfl ?_
      exact (k2 z0 c0 c1)

theorem sgX1_ledToBy_22 {X : CX} {d mc ms cells slots : Nat} {pp : Option Nat → Hp → Prop} {h : Hp} {t : Nat} {x1 : Int32} {o2 : Option Nat} {u0 : Int32}  (C : CmR X mX1_ledToBy d mc ms pp) (hc : cells ≤ mc) (hs : slots ≤ ms)  (k0 : u0 = 0 → pp none h) (k1 : ¬ u0 = 0 → pp o2 h) : At X cells slots 22 [some (va_rf (some t)), some (.int x1), some (va_rf o2)] [.int u0] h := by
  refine st_if_eq (pc := 22) (tgt := 29) C.1 dX1_ledToBy_22 (by decide) (fun c0 => ?_) (fun c0 => ?_)
  · refine st_nullq (pc := 29) C.1 dX1_ledToBy_29 ?_
    exact rt_a C none rfl dX1_ledToBy_30 hc hs ⟨_, rfl, (k0 c0)⟩
  · refine st_aload_n (pc := 25) C.1 o2 dX1_ledToBy_25 rfl rfl ?_
    refine st_goto (pc := 26) (tgt := 30) C.1 dX1_ledToBy_26 (by decide) ?_
    exact rt_a C o2 rfl dX1_ledToBy_30 hc hs ⟨_, rfl, (k1 c0)⟩

theorem clX1_ledToBy_2 {X : CX} {d0 mc0 ms0 d mc ms cells slots : Nat} {pp : Option Nat → Hp → Prop} {h : Hp} {ls : List (Option Value)} {rest : List Value} {b : Nat} {a0 : Value} {post : Option Nat → Hp → Prop} (C : CmR X mX1_ledToBy d0 mc0 ms0 pp) (hct : CtR mX1_at d mc ms [va_rf (some b), a0] h post) (hK : h.K b = 2) (hdd : d < d0) (hmc : cells + mc ≤ mc0) (hms : slots + ms ≤ ms0) (hcat : (rest.map fun v => v.category).sum ≤ 8) (kk : ∀ o h', post o h' → At X (cells + mc) (slots + ms) 5 ls (va_rf o :: rest) h') : At X cells slots 2 ls (a0 :: va_rf (some b) :: rest) h :=
  st_callV (pc := 2) (M := mX1_at) (idx := 17) (As := [a0]) C.1 C.2.2.1 C.2.2.2.2.2.2 ⟨wM_RX1_17, wC_X1_at, wI_RX1, by decide +kernel, by decide⟩ wV_X1_at wS_X1_at (ci := 1) (n := 1) rfl rfl (by decide) dX1_ledToBy_2 rfl hdd hcat hK hct hmc hms (fun v h2 hp => by obtain ⟨o, rfl, hp⟩ := hp; exact kk o h2 hp)
theorem clX1_ledToBy_19 {X : CX} {d0 mc0 ms0 d mc ms cells slots : Nat} {pp : Option Nat → Hp → Prop} {h : Hp} {ls : List (Option Value)} {rest : List Value} {b : Nat} {a0 : Value} {post : Int32 → Hp → Prop} (C : CmR X mX1_ledToBy d0 mc0 ms0 pp) (hct : CtI mX0_hasWord d mc ms [va_rf (some b), a0] h post) (hK : h.K b = 1) (hdd : d < d0) (hmc : cells + mc ≤ mc0) (hms : slots + ms ≤ ms0) (hcat : (rest.map fun v => v.category).sum ≤ 8) (kk : ∀ r h', post r h' → At X (cells + mc) (slots + ms) 22 ls (.int r :: rest) h') : At X cells slots 19 ls (a0 :: va_rf (some b) :: rest) h :=
  st_callV (pc := 19) (M := mX0_hasWord) (idx := 32) (As := [a0]) C.1 C.2.2.1 C.2.2.2.2.2.2 ⟨wM_RX1_32, wC_X0_hasWord, wI_RX0, by decide +kernel, by decide⟩ wV_X0_hasWord wS_X0_hasWord (ci := 0) (n := 1) rfl rfl (by decide) dX1_ledToBy_19 rfl hdd hcat hK hct hmc hms (fun v h2 hp => by obtain ⟨r, rfl, hp⟩ := hp; exact kk r h2 hp)
theorem sgX1_liveFromUnit_0 {X : CX} {d mc ms cells slots : Nat} {pp : Option Nat → Hp → Prop} {h : Hp} {t : Nat} {x1 : Int32} {r0 : Nat} (C : CmR X mX1_liveFromUnit d mc ms pp) (hc : cells ≤ mc) (hs : slots ≤ ms) (h0 : h.K t = 2) (h1 : h.R 100 t = some r0) (h2 : h.K r0 = 13) (h3 : ¬ x1 < 0 → x1 < nI (h.N r0) → vp_in x1 (h.N r0)) (h4 : ¬ x1 < 0 → x1 < nI (h.N r0) → ∀ z2 : Nat, h.AR r0 (x1.toNatClampNeg) = some z2 → h.K z2 = 1) (h5 : ¬ x1 < 0 → x1 < nI (h.N r0) → ∀ z2 : Nat, h.AR r0 (x1.toNatClampNeg) = some z2 → h.I 0 z2 = 1 + (x1 * 4) → h.K z2 = 1) (k0 : x1 < 0 → pp none h) (k1 : ¬ x1 < 0 → x1 < nI (h.N r0) → h.AR r0 (x1.toNatClampNeg) = none → pp none h) (k2 : ¬ x1 < 0 → x1 < nI (h.N r0) → ∀ z2 : Nat, h.AR r0 (x1.toNatClampNeg) = some z2 → ¬ h.I 0 z2 = 1 + (x1 * 4) → pp none h) (k3 : ¬ x1 < 0 → x1 < nI (h.N r0) → ∀ z2 : Nat, h.AR r0 (x1.toNatClampNeg) = some z2 → h.I 0 z2 = 1 + (x1 * 4) → h.I 5 z2 = 0 → pp none h) (k4 : ¬ x1 < 0 → x1 < nI (h.N r0) → ∀ z2 : Nat, h.AR r0 (x1.toNatClampNeg) = some z2 → h.I 0 z2 = 1 + (x1 * 4) → ¬ h.I 5 z2 = 0 → pp (some z2) h) (k5 : ¬ x1 < 0 → ¬ x1 < nI (h.N r0) → pp none h) : At X cells slots 0 [some (va_rf (some t)), some (.int x1), none, none] [] h := by
  refine st_iload_n (pc := 0) C.1 dX1_liveFromUnit_0 rfl rfl ?_
  refine st_if_lt (pc := 1) (tgt := 13) C.1 dX1_liveFromUnit_1 (by decide) (fun c0 => ?_) (fun c0 => ?_)
  · refine st_nullq (pc := 13) C.1 dX1_liveFromUnit_13 ?_
    exact rt_a C none rfl dX1_liveFromUnit_14 hc hs ⟨_, rfl, (k0 c0)⟩
  · refine st_iload_n (pc := 4) C.1 dX1_liveFromUnit_4 rfl rfl ?_
    refine st_aload_n (pc := 5) C.1 (some t) dX1_liveFromUnit_5 rfl rfl ?_
    refine gR_RX1_11 (pc := 6) C.1 (some r0) dX1_liveFromUnit_6 h0 h1 ?_
    refine st_alen (pc := 9) C.1 dX1_liveFromUnit_9 (Or.inr (Or.inr (Or.inl h2))) ?_
    refine st_icmp_lt (pc := 10) (tgt := 15) C.1 dX1_liveFromUnit_10 (by decide) (fun c1 => ?_) (fun c1 => ?_)
    · refine st_aload_n (pc := 15) C.1 (some t) dX1_liveFromUnit_15 rfl rfl ?_
      refine gR_RX1_11 (pc := 16) C.1 (some r0) dX1_liveFromUnit_16 h0 h1 ?_
      refine st_iload_n (pc := 19) C.1 dX1_liveFromUnit_19 rfl rfl ?_
      refine sv_aaload (pc := 20) C.1 (h.AR r0 (x1.toNatClampNeg)) dX1_liveFromUnit_20 (Or.inl h2) (h3 c0 c1) rfl ?_
      refine sv_astore_n (pc := 21) (i := 2) C.1 [some (va_rf (some t)), some (.int x1), some (va_rf (h.AR r0 (x1.toNatClampNeg))), none] (h.AR r0 (x1.toNatClampNeg)) dX1_liveFromUnit_21 rfl (Nat.le_of_ble_eq_true rfl) (by rw [C.2.1]; exact Nat.le_of_ble_eq_true rfl) rfl rfl ?_
      refine st_aload_n (pc := 22) C.1 (h.AR r0 (x1.toNatClampNeg)) dX1_liveFromUnit_22 rfl rfl ?_
      refine st_ifnull (pc := 23) (o := h.AR r0 (x1.toNatClampNeg)) (tgt := 42) C.1 dX1_liveFromUnit_23 (by decide) (fun c2 => ?_) (fun z2 c2 => ?_)
      · try rw [c2]
        refine st_iconst (pc := 42) (v := 0) C.1 dX1_liveFromUnit_42 (by decide) ?_
        refine sv_istore_n (pc := 43) (i := 3) C.1 [some (va_rf (some t)), some (.int x1), some (va_rf none), some (.int 0)] dX1_liveFromUnit_43 rfl (Nat.le_of_ble_eq_true rfl) (by rw [C.2.1]; exact Nat.le_of_ble_eq_true rfl) rfl rfl ?_
        refine st_iload_n (pc := 44) C.1 dX1_liveFromUnit_44 rfl rfl ?_
        refine st_if_eq (pc := 45) (tgt := 59) C.1 dX1_liveFromUnit_45 (by decide) (fun c3 => ?_) (fun c3 => ?_)
        · refine st_nullq (pc := 59) C.1 dX1_liveFromUnit_59 ?_
          exact rt_a C none rfl dX1_liveFromUnit_60 hc hs ⟨_, rfl, (k1 c0 c1 c2)⟩
        · exact absurd c3 (by decide)
      · try rw [c2]
        refine st_aload_n (pc := 26) C.1 (some z2) dX1_liveFromUnit_26 rfl rfl ?_
        refine gI_RX1_36 (pc := 27) C.1 (h.I 0 z2) dX1_liveFromUnit_27 (h4 c0 c1 z2 c2) rfl ?_
        refine st_iconst (pc := 30) (v := 1) C.1 dX1_liveFromUnit_30 (by decide) ?_
        refine st_iload_n (pc := 31) C.1 dX1_liveFromUnit_31 rfl rfl ?_
        refine st_iconst (pc := 32) (v := 4) C.1 dX1_liveFromUnit_32 (by decide) ?_
        refine st_imul (pc := 33) C.1 dX1_liveFromUnit_33 ?_
        refine st_iadd (pc := 34) C.1 dX1_liveFromUnit_34 ?_
        refine st_icmp_ne (pc := 35) (tgt := 42) C.1 dX1_liveFromUnit_35 (by decide) (fun c4 => ?_) (fun c4 => ?_)
        · refine st_iconst (pc := 42) (v := 0) C.1 dX1_liveFromUnit_42 (by decide) ?_
          refine sv_istore_n (pc := 43) (i := 3) C.1 [some (va_rf (some t)), some (.int x1), some (va_rf (some z2)), some (.int 0)] dX1_liveFromUnit_43 rfl (Nat.le_of_ble_eq_true rfl) (by rw [C.2.1]; exact Nat.le_of_ble_eq_true rfl) rfl rfl ?_
          refine st_iload_n (pc := 44) C.1 dX1_liveFromUnit_44 rfl rfl ?_
          refine st_if_eq (pc := 45) (tgt := 59) C.1 dX1_liveFromUnit_45 (by decide) (fun c5 => ?_) (fun c5 => ?_)
          · refine st_nullq (pc := 59) C.1 dX1_liveFromUnit_59 ?_
            exact rt_a C none rfl dX1_liveFromUnit_60 hc hs ⟨_, rfl, (k2 c0 c1 z2 c2 c4)⟩
          · exact absurd c5 (by decide)
        · refine st_iconst (pc := 38) (v := 1) C.1 dX1_liveFromUnit_38 (by decide) ?_
          refine st_goto (pc := 39) (tgt := 43) C.1 dX1_liveFromUnit_39 (by decide) ?_
          refine sv_istore_n (pc := 43) (i := 3) C.1 [some (va_rf (some t)), some (.int x1), some (va_rf (some z2)), some (.int 1)] dX1_liveFromUnit_43 rfl (Nat.le_of_ble_eq_true rfl) (by rw [C.2.1]; exact Nat.le_of_ble_eq_true rfl) rfl rfl ?_
          refine st_iload_n (pc := 44) C.1 dX1_liveFromUnit_44 rfl rfl ?_
          refine st_if_eq (pc := 45) (tgt := 59) C.1 dX1_liveFromUnit_45 (by decide) (fun c6 => ?_) (fun c6 => ?_)
          · exact absurd c6 (by decide)
          · refine st_aload_n (pc := 48) C.1 (some z2) dX1_liveFromUnit_48 rfl rfl ?_
            refine gI_RX1_28 (pc := 49) C.1 (h.I 5 z2) dX1_liveFromUnit_49 (h5 c0 c1 z2 c2 c4) rfl ?_
            refine st_if_eq (pc := 52) (tgt := 59) C.1 dX1_liveFromUnit_52 (by decide) (fun c7 => ?_) (fun c7 => ?_)
            · refine st_nullq (pc := 59) C.1 dX1_liveFromUnit_59 ?_
              exact rt_a C none rfl dX1_liveFromUnit_60 hc hs ⟨_, rfl, (k3 c0 c1 z2 c2 c4 c7)⟩
            · refine st_aload_n (pc := 55) C.1 (some z2) dX1_liveFromUnit_55 rfl rfl ?_
              refine st_goto (pc := 56) (tgt := 60) C.1 dX1_liveFromUnit_56 (by decide) ?_
              exact rt_a C (some z2) rfl dX1_liveFromUnit_60 hc hs ⟨_, rfl, (k4 c0 c1 z2 c2 c4 c7)⟩
    · refine st_nullq (pc := 13) C.1 dX1_liveFromUnit_13 ?_
      exact rt_a C none rfl dX1_liveFromUnit_14 hc hs ⟨_, rfl, (k5 c0 c1)⟩

theorem sgX1_sortOf_0 {X : CX} {d mc ms cells slots : Nat} {pp : Int32 → Hp → Prop} {h : Hp} {t : Nat} {x1 : Int32}  (C : CmI X mX1_sortOf d mc ms pp)  (k0 : At X cells slots 2 [some (va_rf (some t)), some (.int x1), none] [.int x1, va_rf (some t)] h) : At X cells slots 0 [some (va_rf (some t)), some (.int x1), none] [] h := by
  refine st_aload_n (pc := 0) C.1 (some t) dX1_sortOf_0 rfl rfl ?_
  refine st_iload_n (pc := 1) C.1 dX1_sortOf_1 rfl rfl ?_
  exact k0

theorem sgX1_sortOf_5 {X : CX} {d mc ms cells slots : Nat} {pp : Int32 → Hp → Prop} {h : Hp} {t : Nat} {x1 : Int32} {p0 : Option Nat}  (C : CmI X mX1_sortOf d mc ms pp) (hc : cells ≤ mc) (hs : slots ≤ ms)  (k0 : ∀ z0 : Nat, p0 = some z0 → At X cells slots 14 [some (va_rf (some t)), some (.int x1), some (va_rf (some z0))] [.int x1, va_rf (some z0)] h) (k1 : p0 = none → pp 3 h) : At X cells slots 5 [some (va_rf (some t)), some (.int x1), none] [va_rf p0] h := by
  refine sv_astore_n (pc := 5) (i := 2) C.1 [some (va_rf (some t)), some (.int x1), some (va_rf p0)] p0 dX1_sortOf_5 rfl (Nat.le_of_ble_eq_true rfl) (by rw [C.2.1]; exact Nat.le_of_ble_eq_true rfl) rfl rfl ?_
  refine st_aload_n (pc := 6) C.1 p0 dX1_sortOf_6 rfl rfl ?_
  refine st_ifnonnull (pc := 7) (o := p0) (tgt := 12) C.1 dX1_sortOf_7 (by decide) (fun z0 c0 => ?_) (fun c0 => ?_)
  · try rw [c0]
    refine st_aload_n (pc := 12) C.1 (some z0) dX1_sortOf_12 rfl rfl ?_
    refine st_iload_n (pc := 13) C.1 dX1_sortOf_13 rfl rfl ?_
    exact (k0 z0 c0)
  · try rw [c0]
    refine st_iconst (pc := 10) (v := 3) C.1 dX1_sortOf_10 (by decide) ?_
    exact rt_i C (Or.inl rfl) dX1_sortOf_11 hc hs ⟨_, rfl, (k1 c0)⟩

theorem sgX1_sortOf_17 {X : CX} {d mc ms cells slots : Nat} {pp : Int32 → Hp → Prop} {h : Hp} {t : Nat} {x1 : Int32} {b2 : Nat} {u0 : Int32}  (C : CmI X mX1_sortOf d mc ms pp) (hc : cells ≤ mc) (hs : slots ≤ ms) (h0 : h.K b2 = 1) (k0 : ¬ u0 = 0 → h.I 5 b2 = 0 → pp 1 h) (k1 : ¬ u0 = 0 → ¬ h.I 5 b2 = 0 → pp 0 h) (k2 : u0 = 0 → pp 2 h) : At X cells slots 17 [some (va_rf (some t)), some (.int x1), some (va_rf (some b2))] [.int u0] h := by
  refine st_if_ne (pc := 17) (tgt := 22) C.1 dX1_sortOf_17 (by decide) (fun c0 => ?_) (fun c0 => ?_)
  · refine st_aload_n (pc := 22) C.1 (some b2) dX1_sortOf_22 rfl rfl ?_
    refine gI_RX1_28 (pc := 23) C.1 (h.I 5 b2) dX1_sortOf_23 h0 rfl ?_
    refine st_if_eq (pc := 26) (tgt := 33) C.1 dX1_sortOf_26 (by decide) (fun c1 => ?_) (fun c1 => ?_)
    · refine st_iconst (pc := 33) (v := 1) C.1 dX1_sortOf_33 (by decide) ?_
      exact rt_i C (Or.inl rfl) dX1_sortOf_34 hc hs ⟨_, rfl, (k0 c0 c1)⟩
    · refine st_iconst (pc := 29) (v := 0) C.1 dX1_sortOf_29 (by decide) ?_
      refine st_goto (pc := 30) (tgt := 34) C.1 dX1_sortOf_30 (by decide) ?_
      exact rt_i C (Or.inl rfl) dX1_sortOf_34 hc hs ⟨_, rfl, (k1 c0 c1)⟩
  · refine st_iconst (pc := 20) (v := 2) C.1 dX1_sortOf_20 (by decide) ?_
    exact rt_i C (Or.inl rfl) dX1_sortOf_21 hc hs ⟨_, rfl, (k2 c0)⟩

theorem clX1_sortOf_2 {X : CX} {d0 mc0 ms0 d mc ms cells slots : Nat} {pp : Int32 → Hp → Prop} {h : Hp} {ls : List (Option Value)} {rest : List Value} {b : Nat} {a0 : Value} {post : Option Nat → Hp → Prop} (C : CmI X mX1_sortOf d0 mc0 ms0 pp) (hct : CtR mX1_at d mc ms [va_rf (some b), a0] h post) (hK : h.K b = 2) (hdd : d < d0) (hmc : cells + mc ≤ mc0) (hms : slots + ms ≤ ms0) (hcat : (rest.map fun v => v.category).sum ≤ 8) (kk : ∀ o h', post o h' → At X (cells + mc) (slots + ms) 5 ls (va_rf o :: rest) h') : At X cells slots 2 ls (a0 :: va_rf (some b) :: rest) h :=
  st_callV (pc := 2) (M := mX1_at) (idx := 17) (As := [a0]) C.1 C.2.2.1 C.2.2.2.2.2.2 ⟨wM_RX1_17, wC_X1_at, wI_RX1, by decide +kernel, by decide⟩ wV_X1_at wS_X1_at (ci := 1) (n := 1) rfl rfl (by decide) dX1_sortOf_2 rfl hdd hcat hK hct hmc hms (fun v h2 hp => by obtain ⟨o, rfl, hp⟩ := hp; exact kk o h2 hp)
theorem clX1_sortOf_14 {X : CX} {d0 mc0 ms0 d mc ms cells slots : Nat} {pp : Int32 → Hp → Prop} {h : Hp} {ls : List (Option Value)} {rest : List Value} {b : Nat} {a0 : Value} {post : Int32 → Hp → Prop} (C : CmI X mX1_sortOf d0 mc0 ms0 pp) (hct : CtI mX0_hasWord d mc ms [va_rf (some b), a0] h post) (hK : h.K b = 1) (hdd : d < d0) (hmc : cells + mc ≤ mc0) (hms : slots + ms ≤ ms0) (hcat : (rest.map fun v => v.category).sum ≤ 8) (kk : ∀ r h', post r h' → At X (cells + mc) (slots + ms) 17 ls (.int r :: rest) h') : At X cells slots 14 ls (a0 :: va_rf (some b) :: rest) h :=
  st_callV (pc := 14) (M := mX0_hasWord) (idx := 32) (As := [a0]) C.1 C.2.2.1 C.2.2.2.2.2.2 ⟨wM_RX1_32, wC_X0_hasWord, wI_RX0, by decide +kernel, by decide⟩ wV_X0_hasWord wS_X0_hasWord (ci := 0) (n := 1) rfl rfl (by decide) dX1_sortOf_14 rfl hdd hcat hK hct hmc hms (fun v h2 hp => by obtain ⟨r, rfl, hp⟩ := hp; exact kk r h2 hp)
theorem sgX1_ownWordsFrom_0 {X : CX} {d mc ms cells slots : Nat} {pp : Int32 → Hp → Prop} {h : Hp} {t : Nat} {x1 : Int32} {x2 : Int32}  (C : CmI X mX1_ownWordsFrom d mc ms pp)  (k0 : At X cells slots 2 [some (va_rf (some t)), some (.int x1), some (.int x2), some (.int 0)] [] h) : At X cells slots 0 [some (va_rf (some t)), some (.int x1), some (.int x2), none] [] h := by
  refine st_iconst (pc := 0) (v := 0) C.1 dX1_ownWordsFrom_0 (by decide) ?_
  refine sv_istore_n (pc := 1) (i := 3) C.1 [some (va_rf (some t)), some (.int x1), some (.int x2), some (.int 0)] dX1_ownWordsFrom_1 rfl (Nat.le_of_ble_eq_true rfl) (by rw [C.2.1]; exact Nat.le_of_ble_eq_true rfl) rfl rfl ?_
  exact k0

theorem sgX1_ownWordsFrom_2 {X : CX} {d mc ms cells slots : Nat} {pp : Int32 → Hp → Prop} {h : Hp} {t : Nat} {x1 : Int32} {x2 : Int32} {x3 : Int32}  (C : CmI X mX1_ownWordsFrom d mc ms pp) (hc : cells ≤ mc) (hs : slots ≤ ms)  (k0 : x2 ≤ x3 → pp x2 h) (k1 : ¬ x2 ≤ x3 → At X cells slots 11 [some (va_rf (some t)), some (.int x1), some (.int x2), some (.int x3)] [.int (x1 + x3), va_rf (some t)] h) : At X cells slots 2 [some (va_rf (some t)), some (.int x1), some (.int x2), some (.int x3)] [] h := by
  refine st_iload_n (pc := 2) C.1 dX1_ownWordsFrom_2 rfl rfl ?_
  refine st_iload_n (pc := 3) C.1 dX1_ownWordsFrom_3 rfl rfl ?_
  refine st_icmp_ge (pc := 4) (tgt := 25) C.1 dX1_ownWordsFrom_4 (by decide) (fun c0 => ?_) (fun c0 => ?_)
  · refine st_iload_n (pc := 25) C.1 dX1_ownWordsFrom_25 rfl rfl ?_
    exact rt_i C (Or.inl rfl) dX1_ownWordsFrom_26 hc hs ⟨_, rfl, (k0 c0)⟩
  · refine st_aload_n (pc := 7) C.1 (some t) dX1_ownWordsFrom_7 rfl rfl ?_
    refine st_iload_n (pc := 8) C.1 dX1_ownWordsFrom_8 rfl rfl ?_
    refine st_iload_n (pc := 9) C.1 dX1_ownWordsFrom_9 rfl rfl ?_
    refine st_iadd (pc := 10) C.1 dX1_ownWordsFrom_10 ?_
    exact (k1 c0)

theorem sgX1_ownWordsFrom_14 {X : CX} {d mc ms cells slots : Nat} {pp : Int32 → Hp → Prop} {h : Hp} {t : Nat} {x1 : Int32} {x2 : Int32} {x3 : Int32} {u0 : Int32}  (C : CmI X mX1_ownWordsFrom d mc ms pp) (hc : cells ≤ mc) (hs : slots ≤ ms)  (k0 : u0 = 0 → At X cells slots 2 [some (va_rf (some t)), some (.int x1), some (.int x2), some (.int (x3 + 1))] [] h) (k1 : ¬ u0 = 0 → pp x3 h) : At X cells slots 14 [some (va_rf (some t)), some (.int x1), some (.int x2), some (.int x3)] [.int u0] h := by
  refine st_if_eq (pc := 14) (tgt := 19) C.1 dX1_ownWordsFrom_14 (by decide) (fun c0 => ?_) (fun c0 => ?_)
  · refine sv_iinc (pc := 19) (i := 3) (v := x3 + 1) C.1 [some (va_rf (some t)), some (.int x1), some (.int x2), some (.int (x3 + 1))] dX1_ownWordsFrom_19 rfl rfl (by rw [C.2.1]; exact Nat.le_of_ble_eq_true rfl) rfl rfl ?_
    refine st_goto (pc := 22) (tgt := 2) C.1 dX1_ownWordsFrom_22 (by decide) ?_
    exact (k0 c0)
  · refine st_iload_n (pc := 17) C.1 dX1_ownWordsFrom_17 rfl rfl ?_
    exact rt_i C (Or.inl rfl) dX1_ownWordsFrom_18 hc hs ⟨_, rfl, (k1 c0)⟩

theorem clX1_ownWordsFrom_11 {X : CX} {d0 mc0 ms0 d mc ms cells slots : Nat} {pp : Int32 → Hp → Prop} {h : Hp} {ls : List (Option Value)} {rest : List Value} {b : Nat} {a0 : Value} {post : Int32 → Hp → Prop} (C : CmI X mX1_ownWordsFrom d0 mc0 ms0 pp) (hct : CtI mX1_sortOf d mc ms [va_rf (some b), a0] h post) (hK : h.K b = 2) (hdd : d < d0) (hmc : cells + mc ≤ mc0) (hms : slots + ms ≤ ms0) (hcat : (rest.map fun v => v.category).sum ≤ 8) (kk : ∀ r h', post r h' → At X (cells + mc) (slots + ms) 14 ls (.int r :: rest) h') : At X cells slots 11 ls (a0 :: va_rf (some b) :: rest) h :=
  st_callV (pc := 11) (M := mX1_sortOf) (idx := 39) (As := [a0]) C.1 C.2.2.1 C.2.2.2.2.2.2 ⟨wM_RX1_39, wC_X1_sortOf, wI_RX1, by decide +kernel, by decide⟩ wV_X1_sortOf wS_X1_sortOf (ci := 1) (n := 1) rfl rfl (by decide) dX1_ownWordsFrom_11 rfl hdd hcat hK hct hmc hms (fun v h2 hp => by obtain ⟨r, rfl, hp⟩ := hp; exact kk r h2 hp)
theorem sgX1_enter_0 {X : CX} {d mc ms cells slots : Nat} {pp : Hp → Prop} {h : Hp} {t : Nat} {o1 : Option Nat}  (C : CmV X mX1_enter d mc ms pp)  (k0 : At X cells slots 3 [some (va_rf (some t)), some (va_rf o1)] [va_rf o1, va_rf o1, va_rf (some t)] h) : At X cells slots 0 [some (va_rf (some t)), some (va_rf o1)] [] h := by
  refine st_aload_n (pc := 0) C.1 (some t) dX1_enter_0 rfl rfl ?_
  refine st_aload_n (pc := 1) C.1 o1 dX1_enter_1 rfl rfl ?_
  refine st_aload_n (pc := 2) C.1 o1 dX1_enter_2 rfl rfl ?_
  exact k0

theorem sgX1_enter_6 {X : CX} {d mc ms cells slots : Nat} {pp : Hp → Prop} {h : Hp} {t : Nat} {o1 : Option Nat}  (C : CmV X mX1_enter d mc ms pp) (hc : cells ≤ mc) (hs : slots ≤ ms)  (k0 : pp h) : At X cells slots 6 [some (va_rf (some t)), some (va_rf o1)] [] h := by
  exact rt_v C rfl dX1_enter_6 hc hs ⟨rfl, k0⟩

theorem clX1_enter_3 {X : CX} {d0 mc0 ms0 d mc ms cells slots : Nat} {pp : Hp → Prop} {h : Hp} {ls : List (Option Value)} {rest : List Value} {b : Nat} {a0 a1 : Value} {post : Hp → Prop} (C : CmV X mX1_enter d0 mc0 ms0 pp) (hct : CtV mX1_fillUnits d mc ms [va_rf (some b), a0, a1] h post) (hK : h.K b = 2) (hdd : d < d0) (hmc : cells + mc ≤ mc0) (hms : slots + ms ≤ ms0) (hcat : (rest.map fun v => v.category).sum ≤ 8) (kk : ∀ h', post h' → At X (cells + mc) (slots + ms) 6 ls rest h') : At X cells slots 3 ls (a1 :: a0 :: va_rf (some b) :: rest) h :=
  st_callV (pc := 3) (M := mX1_fillUnits) (idx := 43) (As := [a0, a1]) C.1 C.2.2.1 C.2.2.2.2.2.2 ⟨wM_RX1_43, wC_X1_fillUnits, wI_RX1, by decide +kernel, by decide⟩ wV_X1_fillUnits wS_X1_fillUnits (ci := 1) (n := 2) rfl rfl (by decide) dX1_enter_3 rfl hdd hcat hK hct hmc hms (fun v h2 hp => by obtain ⟨rfl, hp⟩ := hp; exact kk h2 hp)
theorem sgX1_remove_0 {X : CX} {d mc ms cells slots : Nat} {pp : Hp → Prop} {h : Hp} {t : Nat} {o1 : Option Nat}  (C : CmV X mX1_remove d mc ms pp)  (k0 : At X cells slots 3 [some (va_rf (some t)), some (va_rf o1)] [va_rf none, va_rf o1, va_rf (some t)] h) : At X cells slots 0 [some (va_rf (some t)), some (va_rf o1)] [] h := by
  refine st_aload_n (pc := 0) C.1 (some t) dX1_remove_0 rfl rfl ?_
  refine st_aload_n (pc := 1) C.1 o1 dX1_remove_1 rfl rfl ?_
  refine st_nullq (pc := 2) C.1 dX1_remove_2 ?_
  exact k0

theorem sgX1_remove_6 {X : CX} {d mc ms cells slots : Nat} {pp : Hp → Prop} {h : Hp} {t : Nat} {o1 : Option Nat}  (C : CmV X mX1_remove d mc ms pp) (hc : cells ≤ mc) (hs : slots ≤ ms)  (k0 : pp h) : At X cells slots 6 [some (va_rf (some t)), some (va_rf o1)] [] h := by
  exact rt_v C rfl dX1_remove_6 hc hs ⟨rfl, k0⟩

theorem clX1_remove_3 {X : CX} {d0 mc0 ms0 d mc ms cells slots : Nat} {pp : Hp → Prop} {h : Hp} {ls : List (Option Value)} {rest : List Value} {b : Nat} {a0 a1 : Value} {post : Hp → Prop} (C : CmV X mX1_remove d0 mc0 ms0 pp) (hct : CtV mX1_fillUnits d mc ms [va_rf (some b), a0, a1] h post) (hK : h.K b = 2) (hdd : d < d0) (hmc : cells + mc ≤ mc0) (hms : slots + ms ≤ ms0) (hcat : (rest.map fun v => v.category).sum ≤ 8) (kk : ∀ h', post h' → At X (cells + mc) (slots + ms) 6 ls rest h') : At X cells slots 3 ls (a1 :: a0 :: va_rf (some b) :: rest) h :=
  st_callV (pc := 3) (M := mX1_fillUnits) (idx := 43) (As := [a0, a1]) C.1 C.2.2.1 C.2.2.2.2.2.2 ⟨wM_RX1_43, wC_X1_fillUnits, wI_RX1, by decide +kernel, by decide⟩ wV_X1_fillUnits wS_X1_fillUnits (ci := 1) (n := 2) rfl rfl (by decide) dX1_remove_3 rfl hdd hcat hK hct hmc hms (fun v h2 hp => by obtain ⟨rfl, hp⟩ := hp; exact kk h2 hp)
theorem sgX1_fillUnits_0 {X : CX} {d mc ms cells slots : Nat} {pp : Hp → Prop} {h : Hp} {t : Nat} {b1 : Nat} {o2 : Option Nat}  (C : CmV X mX1_fillUnits d mc ms pp) (h0 : h.K b1 = 1) (k0 : At X cells slots 7 [some (va_rf (some t)), some (va_rf (some b1)), some (va_rf o2), none, none, none] [.int 0, .int ((h.I 0 b1) - 1)] h) : At X cells slots 0 [some (va_rf (some t)), some (va_rf (some b1)), some (va_rf o2), none, none, none] [] h := by
  refine st_aload_n (pc := 0) C.1 (some b1) dX1_fillUnits_0 rfl rfl ?_
  refine gI_RX1_36 (pc := 1) C.1 (h.I 0 b1) dX1_fillUnits_1 h0 rfl ?_
  refine st_iconst (pc := 4) (v := 1) C.1 dX1_fillUnits_4 (by decide) ?_
  refine st_isub (pc := 5) C.1 dX1_fillUnits_5 ?_
  refine st_iconst (pc := 6) (v := 0) C.1 dX1_fillUnits_6 (by decide) ?_
  exact k0

theorem sgX1_fillUnits_10 {X : CX} {d mc ms cells slots : Nat} {pp : Hp → Prop} {h : Hp} {t : Nat} {b1 : Nat} {o2 : Option Nat} {u0 : Int32}  (C : CmV X mX1_fillUnits d mc ms pp) (h0 : h.K b1 = 1) (k0 : At X cells slots 26 [some (va_rf (some t)), some (va_rf (some b1)), some (va_rf o2), some (.int (u0 / 4)), some (.int ((u0 / 4) + ((h.I 1 b1) / 4))), some (.int (u0 / 4))] [] h) : At X cells slots 10 [some (va_rf (some t)), some (va_rf (some b1)), some (va_rf o2), none, none, none] [.int u0] h := by
  refine st_iconst (pc := 10) (v := 4) C.1 dX1_fillUnits_10 (by decide) ?_
  refine st_idiv (pc := 11) C.1 dX1_fillUnits_11 (by decide) ?_
  refine sv_istore_n (pc := 12) (i := 3) C.1 [some (va_rf (some t)), some (va_rf (some b1)), some (va_rf o2), some (.int (u0 / 4)), none, none] dX1_fillUnits_12 rfl (Nat.le_of_ble_eq_true rfl) (by rw [C.2.1]; exact Nat.le_of_ble_eq_true rfl) (l1_rf (o := o2) rfl) rfl ?_
  refine st_iload_n (pc := 13) C.1 dX1_fillUnits_13 rfl rfl ?_
  refine st_aload_n (pc := 14) C.1 (some b1) dX1_fillUnits_14 rfl rfl ?_
  refine gI_RX1_53 (pc := 15) C.1 (h.I 1 b1) dX1_fillUnits_15 h0 rfl ?_
  refine st_iconst (pc := 18) (v := 4) C.1 dX1_fillUnits_18 (by decide) ?_
  refine st_idiv (pc := 19) C.1 dX1_fillUnits_19 (by decide) ?_
  refine st_iadd (pc := 20) C.1 dX1_fillUnits_20 ?_
  refine sv_istore (pc := 21) (i := 4) C.1 [some (va_rf (some t)), some (va_rf (some b1)), some (va_rf o2), some (.int (u0 / 4)), some (.int ((u0 / 4) + ((h.I 1 b1) / 4))), none] dX1_fillUnits_21 (Nat.le_of_ble_eq_true rfl) (by rw [C.2.1]; exact Nat.le_of_ble_eq_true rfl) rfl rfl ?_
  refine st_iload_n (pc := 23) C.1 dX1_fillUnits_23 rfl rfl ?_
  refine sv_istore (pc := 24) (i := 5) C.1 [some (va_rf (some t)), some (va_rf (some b1)), some (va_rf o2), some (.int (u0 / 4)), some (.int ((u0 / 4) + ((h.I 1 b1) / 4))), some (.int (u0 / 4))] dX1_fillUnits_24 (Nat.le_of_ble_eq_true rfl) (by rw [C.2.1]; exact Nat.le_of_ble_eq_true rfl) rfl rfl ?_
  exact k0

theorem sgX1_fillUnits_26 {X : CX} {d mc ms cells slots : Nat} {pp : Hp → Prop} {h : Hp} {t : Nat} {o1 : Option Nat} {o2 : Option Nat} {x3 : Int32} {x4 : Int32} {x5 : Int32} {r0 : Nat} (C : CmV X mX1_fillUnits d mc ms pp) (hc : cells ≤ mc) (hs : slots ≤ ms) (h0 : h.K t = 2) (h1 : h.R 100 t = some r0) (h2 : h.K r0 = 13) (h3 : ¬ x4 ≤ x5 → ¬ nI (h.N r0) ≤ x5 → vp_in x5 (h.N r0)) (h4 : ¬ x4 ≤ x5 → ¬ nI (h.N r0) ≤ x5 → ∀ vv, o2 = some vv → h.K vv = 1) (k0 : x4 ≤ x5 → pp h) (k1 : ¬ x4 ≤ x5 → nI (h.N r0) ≤ x5 → pp h) (k2 : ¬ x4 ≤ x5 → ¬ nI (h.N r0) ≤ x5 → At X cells slots 26 [some (va_rf (some t)), some (va_rf o1), some (va_rf o2), some (.int x3), some (.int x4), some (.int (x5 + 1))] [] (h.sAR r0 (x5.toNatClampNeg) o2)) : At X cells slots 26 [some (va_rf (some t)), some (va_rf o1), some (va_rf o2), some (.int x3), some (.int x4), some (.int x5)] [] h := by
  refine st_iload (pc := 26) C.1 dX1_fillUnits_26 rfl ?_
  refine st_iload (pc := 28) C.1 dX1_fillUnits_28 rfl ?_
  refine st_icmp_ge (pc := 30) (tgt := 57) C.1 dX1_fillUnits_30 (by decide) (fun c0 => ?_) (fun c0 => ?_)
  · exact rt_v C rfl dX1_fillUnits_57 hc hs ⟨rfl, (k0 c0)⟩
  · refine st_iload (pc := 33) C.1 dX1_fillUnits_33 rfl ?_
    refine st_aload_n (pc := 35) C.1 (some t) dX1_fillUnits_35 rfl rfl ?_
    refine gR_RX1_11 (pc := 36) C.1 (some r0) dX1_fillUnits_36 h0 h1 ?_
    refine st_alen (pc := 39) C.1 dX1_fillUnits_39 (Or.inr (Or.inr (Or.inl h2))) ?_
    refine st_icmp_ge (pc := 40) (tgt := 57) C.1 dX1_fillUnits_40 (by decide) (fun c1 => ?_) (fun c1 => ?_)
    · exact rt_v C rfl dX1_fillUnits_57 hc hs ⟨rfl, (k1 c0 c1)⟩
    · refine st_aload_n (pc := 43) C.1 (some t) dX1_fillUnits_43 rfl rfl ?_
      refine gR_RX1_11 (pc := 44) C.1 (some r0) dX1_fillUnits_44 h0 h1 ?_
      refine st_iload (pc := 47) C.1 dX1_fillUnits_47 rfl ?_
      refine st_aload_n (pc := 49) C.1 o2 dX1_fillUnits_49 rfl rfl ?_
      refine st_aastore (pc := 50) C.1 o2 dX1_fillUnits_50 (Or.inl ⟨h2, (h4 c0 c1)⟩) (h3 c0 c1) ?_
      refine sv_iinc (pc := 51) (i := 5) (v := x5 + 1) C.1 [some (va_rf (some t)), some (va_rf o1), some (va_rf o2), some (.int x3), some (.int x4), some (.int (x5 + 1))] dX1_fillUnits_51 rfl rfl (by rw [C.2.1]; exact Nat.le_of_ble_eq_true rfl) rfl rfl ?_
      refine st_goto (pc := 54) (tgt := 26) C.1 dX1_fillUnits_54 (by decide) ?_
      exact (k2 c0 c1)

theorem clX1_fillUnits_7 {X : CX} {d0 mc0 ms0 d mc ms cells slots : Nat} {pp : Hp → Prop} {h : Hp} {ls : List (Option Value)} {rest : List Value} {a0 a1 : Value} {post : Int32 → Hp → Prop} (C : CmV X mX1_fillUnits d0 mc0 ms0 pp) (hct : CtI mJ9_max_7cf53 d mc ms [a0, a1] h post) (hdd : d < d0) (hmc : cells + mc ≤ mc0) (hms : slots + ms ≤ ms0) (hcat : (rest.map fun v => v.category).sum ≤ 8) (kk : ∀ r h', post r h' → At X (cells + mc) (slots + ms) 10 ls (.int r :: rest) h') : At X cells slots 7 ls (a1 :: a0 :: rest) h :=
  st_callS (pc := 7) (M := mJ9_max_7cf53) (idx := 47) (As := [a0, a1]) C.1 C.2.2.1 C.2.2.2.2.2.2 (n := 2) ⟨wM_RX1_47, wC_J9_max_7cf53, wI_RJ9, by decide +kernel, by decide⟩ wT_J9_max_7cf53 dX1_fillUnits_7 rfl hdd hcat hct hmc hms (fun v h2 hp => by obtain ⟨r, rfl, hp⟩ := hp; exact kk r h2 hp)
theorem sgX2_init_0 {X : CX} {d mc ms cells slots : Nat} {pp : Hp → Prop} {h : Hp} {t : Nat} {x1 : Int32} {x2 : Int32}  (C : CmV X mX2_init d mc ms pp) (hc : cells ≤ mc) (hs : slots ≤ ms) (hr1 : 1 ≤ d) (h0 : h.K t = 3) (k0 : pp ((h.sI 200 t x1).sI 201 t x2)) : At X cells slots 0 [some (va_rf (some t)), some (.int x1), some (.int x2)] [] h := by
  refine st_aload_n (pc := 0) C.1 (some t) dX2_init_0 rfl rfl ?_
  refine st_objInit (pc := 1) C.1 wM_RX2_1 wObjI wObjC dX2_init_1 (by rw [C.2.2.1]; exact hr1) (by rw [C.2.2.1]; exact Nat.le_trans (Nat.le_of_ble_eq_true rfl) (Nat.mul_le_mul_left 30 hr1)) ?_
  refine st_aload_n (pc := 4) C.1 (some t) dX2_init_4 rfl rfl ?_
  refine st_iload_n (pc := 5) C.1 dX2_init_5 rfl rfl ?_
  refine pI_RX2_7 (pc := 6) C.1 dX2_init_6 h0 C.2.2.2.2.1 ?_
  refine st_aload_n (pc := 9) C.1 (some t) dX2_init_9 rfl rfl ?_
  refine st_iload_n (pc := 10) C.1 dX2_init_10 rfl rfl ?_
  refine pI_RX2_13 (pc := 11) C.1 dX2_init_11 h0 C.2.2.2.2.1 ?_
  exact rt_v C rfl dX2_init_14 hc hs ⟨rfl, k0⟩

theorem sgX2_end_0 {X : CX} {d mc ms cells slots : Nat} {pp : Int32 → Hp → Prop} {h : Hp} {t : Nat}  (C : CmI X mX2_end d mc ms pp) (hc : cells ≤ mc) (hs : slots ≤ ms) (h0 : h.K t = 3) (k0 : pp ((h.I 200 t) + (h.I 201 t)) h) : At X cells slots 0 [some (va_rf (some t))] [] h := by
  refine st_aload_n (pc := 0) C.1 (some t) dX2_end_0 rfl rfl ?_
  refine gI_RX2_7 (pc := 1) C.1 (h.I 200 t) dX2_end_1 h0 rfl ?_
  refine st_aload_n (pc := 4) C.1 (some t) dX2_end_4 rfl rfl ?_
  refine gI_RX2_13 (pc := 5) C.1 (h.I 201 t) dX2_end_5 h0 rfl ?_
  refine st_iadd (pc := 8) C.1 dX2_end_8 ?_
  exact rt_i C (Or.inl rfl) dX2_end_9 hc hs ⟨_, rfl, k0⟩

theorem sgX4_init_0 {X : CX} {d mc ms cells slots : Nat} {pp : Hp → Prop} {h : Hp} {t : Nat}  (C : CmV X mX4_init d mc ms pp) (hr1 : 1 ≤ d)  (k0 : At X cells slots 7 [some (va_rf (some t))] [.int 32, va_rf (some t)] h) : At X cells slots 0 [some (va_rf (some t))] [] h := by
  refine st_aload_n (pc := 0) C.1 (some t) dX4_init_0 rfl rfl ?_
  refine st_objInit (pc := 1) C.1 wM_RX4_3 wObjI wObjC dX4_init_1 (by rw [C.2.2.1]; exact hr1) (by rw [C.2.2.1]; exact Nat.le_trans (Nat.le_of_ble_eq_true rfl) (Nat.mul_le_mul_left 30 hr1)) ?_
  refine st_aload_n (pc := 4) C.1 (some t) dX4_init_4 rfl rfl ?_
  refine st_bipush (pc := 5) (v := 32) C.1 dX4_init_5 (by decide) ?_
  exact k0

theorem sgX4_init_9 {X : CX} {d mc ms cells slots : Nat} {pp : Hp → Prop} {h : Hp} {t : Nat} {p0 : Option Nat} {q1 : Nat}  (C : CmV X mX4_init d mc ms pp) (h0 : h.K q1 = 5) (k0 : At X cells slots 15 [some (va_rf (some t))] [.int 32, va_rf (some t)] (h.sR 400 q1 p0)) : At X cells slots 9 [some (va_rf (some t))] [va_rf p0, va_rf (some q1)] h := by
  refine pR_RX4_9 (pc := 9) C.1 p0 dX4_init_9 h0 C.2.2.2.2.1 ?_
  refine st_aload_n (pc := 12) C.1 (some t) dX4_init_12 rfl rfl ?_
  refine st_bipush (pc := 13) (v := 32) C.1 dX4_init_13 (by decide) ?_
  exact k0

theorem sgX4_init_17 {X : CX} {d mc ms cells slots : Nat} {pp : Hp → Prop} {h : Hp} {t : Nat} {p0 : Option Nat} {q1 : Nat}  (C : CmV X mX4_init d mc ms pp) (hc : cells ≤ mc) (hs : slots ≤ ms) (h0 : h.K q1 = 5) (k0 : pp (h.sR 401 q1 p0)) : At X cells slots 17 [some (va_rf (some t))] [va_rf p0, va_rf (some q1)] h := by
  refine pR_RX4_15 (pc := 17) C.1 p0 dX4_init_17 h0 C.2.2.2.2.1 ?_
  exact rt_v C rfl dX4_init_20 hc hs ⟨rfl, k0⟩

theorem nwX4_init_7 {X : CX} {d0 mc0 ms0 cells slots : Nat} {pp : Hp → Prop} {h : Hp} {ls : List (Option Value)} {st : List Value} {n : Int32} (C : CmV X mX4_init d0 mc0 ms0 pp) (hn : ¬ n < 0) (hb : n.toNatClampNeg ≤ 60000000) (hmc : cells + 1 ≤ mc0) (hms : slots + n.toNatClampNeg ≤ ms0) (kk : ∀ q, h.K q = 0 → At X (cells + 1) (slots + n.toNatClampNeg) 9 ls (va_rf (some q) :: st) (h.nw q 11 n.toNatClampNeg)) : At X cells slots 7 ls (.int n :: st) h :=
  st_newarray (pc := 7) C.1 11 0 (by simp) wA_int dX4_init_7 hn hb (by rw [C.2.2.1]; exact hmc) (by rw [C.2.2.1]; exact hms) kk
theorem nwX4_init_15 {X : CX} {d0 mc0 ms0 cells slots : Nat} {pp : Hp → Prop} {h : Hp} {ls : List (Option Value)} {st : List Value} {n : Int32} (C : CmV X mX4_init d0 mc0 ms0 pp) (hn : ¬ n < 0) (hb : n.toNatClampNeg ≤ 60000000) (hmc : cells + 1 ≤ mc0) (hms : slots + n.toNatClampNeg ≤ ms0) (kk : ∀ q, h.K q = 0 → At X (cells + 1) (slots + n.toNatClampNeg) 17 ls (va_rf (some q) :: st) (h.nw q 11 n.toNatClampNeg)) : At X cells slots 15 ls (.int n :: st) h :=
  st_newarray (pc := 15) C.1 11 0 (by simp) wA_int dX4_init_15 hn hb (by rw [C.2.2.1]; exact hmc) (by rw [C.2.2.1]; exact hms) kk
theorem sgX4_keep_0 {X : CX} {d mc ms cells slots : Nat} {pp : Hp → Prop} {h : Hp} {t : Nat} {x1 : Int32} {x2 : Int32}  (C : CmV X mX4_keep d mc ms pp) (h0 : h.K t = 5) (k0 : At X cells slots 6 [some (va_rf (some t)), some (.int x1), some (.int x2), none] [.int 32, .int (h.I 402 t)] h) : At X cells slots 0 [some (va_rf (some t)), some (.int x1), some (.int x2), none] [] h := by
  refine st_aload_n (pc := 0) C.1 (some t) dX4_keep_0 rfl rfl ?_
  refine gI_RX4_18 (pc := 1) C.1 (h.I 402 t) dX4_keep_1 h0 rfl ?_
  refine st_bipush (pc := 4) (v := 32) C.1 dX4_keep_4 (by decide) ?_
  exact k0

theorem sgX4_keep_9 {X : CX} {d mc ms cells slots : Nat} {pp : Hp → Prop} {h : Hp} {t : Nat} {x1 : Int32} {x2 : Int32} {u0 : Int32} {r0 : Nat} {r1 : Nat} (C : CmV X mX4_keep d mc ms pp) (hc : cells ≤ mc) (hs : slots ≤ ms) (h0 : h.K t = 5) (h1 : h.R 400 t = some r0) (h2 : h.K r0 = 11) (h3 : vp_in u0 (h.N r0)) (h4 : h.R 401 t = some r1) (h5 : h.K r1 = 11) (h6 : vp_in u0 (h.N r1)) (k0 : pp (((h.sAI r0 (u0.toNatClampNeg) x1).sAI r1 (u0.toNatClampNeg) x2).sI 402 t ((h.I 402 t) + 1))) : At X cells slots 9 [some (va_rf (some t)), some (.int x1), some (.int x2), none] [.int u0] h := by
  refine sv_istore_n (pc := 9) (i := 3) C.1 [some (va_rf (some t)), some (.int x1), some (.int x2), some (.int u0)] dX4_keep_9 rfl (Nat.le_of_ble_eq_true rfl) (by rw [C.2.1]; exact Nat.le_of_ble_eq_true rfl) rfl rfl ?_
  refine st_aload_n (pc := 10) C.1 (some t) dX4_keep_10 rfl rfl ?_
  refine gR_RX4_9 (pc := 11) C.1 (some r0) dX4_keep_11 h0 h1 ?_
  refine st_iload_n (pc := 14) C.1 dX4_keep_14 rfl rfl ?_
  refine st_iload_n (pc := 15) C.1 dX4_keep_15 rfl rfl ?_
  refine st_iastore (pc := 16) C.1 dX4_keep_16 h2 h3 ?_
  refine st_aload_n (pc := 17) C.1 (some t) dX4_keep_17 rfl rfl ?_
  refine gR_RX4_15 (pc := 18) C.1 (some r1) dX4_keep_18 h0 h4 ?_
  refine st_iload_n (pc := 21) C.1 dX4_keep_21 rfl rfl ?_
  refine st_iload_n (pc := 22) C.1 dX4_keep_22 rfl rfl ?_
  refine st_iastore (pc := 23) C.1 dX4_keep_23 h5 h6 ?_
  refine st_aload_n (pc := 24) C.1 (some t) dX4_keep_24 rfl rfl ?_
  refine st_dup (pc := 25) C.1 dX4_keep_25 (rf_cat (some t)) ?_
  refine gI_RX4_18 (pc := 26) C.1 (h.I 402 t) dX4_keep_26 h0 rfl ?_
  refine st_iconst (pc := 29) (v := 1) C.1 dX4_keep_29 (by decide) ?_
  refine st_iadd (pc := 30) C.1 dX4_keep_30 ?_
  refine pI_RX4_18 (pc := 31) C.1 dX4_keep_31 h0 ?_
  exact rt_v C rfl dX4_keep_34 hc hs ⟨rfl, k0⟩

theorem clX4_keep_6 {X : CX} {d0 mc0 ms0 d mc ms cells slots : Nat} {pp : Hp → Prop} {h : Hp} {ls : List (Option Value)} {rest : List Value} {a0 a1 : Value} {post : Int32 → Hp → Prop} (C : CmV X mX4_keep d0 mc0 ms0 pp) (hct : CtI mJ9_floorMod_7cf53 d mc ms [a0, a1] h post) (hdd : d < d0) (hmc : cells + mc ≤ mc0) (hms : slots + ms ≤ ms0) (hcat : (rest.map fun v => v.category).sum ≤ 8) (kk : ∀ r h', post r h' → At X (cells + mc) (slots + ms) 9 ls (.int r :: rest) h') : At X cells slots 6 ls (a1 :: a0 :: rest) h :=
  st_callS (pc := 6) (M := mJ9_floorMod_7cf53) (idx := 22) (As := [a0, a1]) C.1 C.2.2.1 C.2.2.2.2.2.2 (n := 2) ⟨wM_RX4_22, wC_J9_floorMod_7cf53, wI_RJ9, by decide +kernel, by decide⟩ wT_J9_floorMod_7cf53 dX4_keep_6 rfl hdd hcat hct hmc hms (fun v h2 hp => by obtain ⟨r, rfl, hp⟩ := hp; exact kk r h2 hp)
theorem sgX4_has_0 {X : CX} {d mc ms cells slots : Nat} {pp : Int32 → Hp → Prop} {h : Hp} {t : Nat} {x1 : Int32}  (C : CmI X mX4_has d mc ms pp) (hc : cells ≤ mc) (hs : slots ≤ ms) (h0 : h.K t = 5) (k0 : x1 < 0 → pp 0 h) (k1 : ¬ x1 < 0 → 32 ≤ x1 → pp 0 h) (k2 : ¬ x1 < 0 → ¬ 32 ≤ x1 → h.I 402 t ≤ x1 → pp 0 h) (k3 : ¬ x1 < 0 → ¬ 32 ≤ x1 → ¬ h.I 402 t ≤ x1 → pp 1 h) : At X cells slots 0 [some (va_rf (some t)), some (.int x1)] [] h := by
  refine st_iload_n (pc := 0) C.1 dX4_has_0 rfl rfl ?_
  refine st_if_lt (pc := 1) (tgt := 22) C.1 dX4_has_1 (by decide) (fun c0 => ?_) (fun c0 => ?_)
  · refine st_iconst (pc := 22) (v := 0) C.1 dX4_has_22 (by decide) ?_
    exact rt_i C (Or.inr ⟨rfl, (Or.inl rfl)⟩) dX4_has_23 hc hs ⟨_, rfl, (k0 c0)⟩
  · refine st_iload_n (pc := 4) C.1 dX4_has_4 rfl rfl ?_
    refine st_bipush (pc := 5) (v := 32) C.1 dX4_has_5 (by decide) ?_
    refine st_icmp_ge (pc := 7) (tgt := 22) C.1 dX4_has_7 (by decide) (fun c1 => ?_) (fun c1 => ?_)
    · refine st_iconst (pc := 22) (v := 0) C.1 dX4_has_22 (by decide) ?_
      exact rt_i C (Or.inr ⟨rfl, (Or.inl rfl)⟩) dX4_has_23 hc hs ⟨_, rfl, (k1 c0 c1)⟩
    · refine st_iload_n (pc := 10) C.1 dX4_has_10 rfl rfl ?_
      refine st_aload_n (pc := 11) C.1 (some t) dX4_has_11 rfl rfl ?_
      refine gI_RX4_18 (pc := 12) C.1 (h.I 402 t) dX4_has_12 h0 rfl ?_
      refine st_icmp_ge (pc := 15) (tgt := 22) C.1 dX4_has_15 (by decide) (fun c2 => ?_) (fun c2 => ?_)
      · refine st_iconst (pc := 22) (v := 0) C.1 dX4_has_22 (by decide) ?_
        exact rt_i C (Or.inr ⟨rfl, (Or.inl rfl)⟩) dX4_has_23 hc hs ⟨_, rfl, (k2 c0 c1 c2)⟩
      · refine st_iconst (pc := 18) (v := 1) C.1 dX4_has_18 (by decide) ?_
        refine st_goto (pc := 19) (tgt := 23) C.1 dX4_has_19 (by decide) ?_
        exact rt_i C (Or.inr ⟨rfl, (Or.inr rfl)⟩) dX4_has_23 hc hs ⟨_, rfl, (k3 c0 c1 c2)⟩

theorem sgX4_slotOf_0 {X : CX} {d mc ms cells slots : Nat} {pp : Int32 → Hp → Prop} {h : Hp} {t : Nat} {x1 : Int32}  (C : CmI X mX4_slotOf d mc ms pp) (h0 : h.K t = 5) (k0 : At X cells slots 10 [some (va_rf (some t)), some (.int x1)] [.int 32, .int (((h.I 402 t) - 1) - x1)] h) : At X cells slots 0 [some (va_rf (some t)), some (.int x1)] [] h := by
  refine st_aload_n (pc := 0) C.1 (some t) dX4_slotOf_0 rfl rfl ?_
  refine gI_RX4_18 (pc := 1) C.1 (h.I 402 t) dX4_slotOf_1 h0 rfl ?_
  refine st_iconst (pc := 4) (v := 1) C.1 dX4_slotOf_4 (by decide) ?_
  refine st_isub (pc := 5) C.1 dX4_slotOf_5 ?_
  refine st_iload_n (pc := 6) C.1 dX4_slotOf_6 rfl rfl ?_
  refine st_isub (pc := 7) C.1 dX4_slotOf_7 ?_
  refine st_bipush (pc := 8) (v := 32) C.1 dX4_slotOf_8 (by decide) ?_
  exact k0

theorem sgX4_slotOf_13 {X : CX} {d mc ms cells slots : Nat} {pp : Int32 → Hp → Prop} {h : Hp} {t : Nat} {x1 : Int32} {u0 : Int32}  (C : CmI X mX4_slotOf d mc ms pp) (hc : cells ≤ mc) (hs : slots ≤ ms)  (k0 : pp u0 h) : At X cells slots 13 [some (va_rf (some t)), some (.int x1)] [.int u0] h := by
  exact rt_i C (Or.inl rfl) dX4_slotOf_13 hc hs ⟨_, rfl, k0⟩

theorem clX4_slotOf_10 {X : CX} {d0 mc0 ms0 d mc ms cells slots : Nat} {pp : Int32 → Hp → Prop} {h : Hp} {ls : List (Option Value)} {rest : List Value} {a0 a1 : Value} {post : Int32 → Hp → Prop} (C : CmI X mX4_slotOf d0 mc0 ms0 pp) (hct : CtI mJ9_floorMod_7cf53 d mc ms [a0, a1] h post) (hdd : d < d0) (hmc : cells + mc ≤ mc0) (hms : slots + ms ≤ ms0) (hcat : (rest.map fun v => v.category).sum ≤ 8) (kk : ∀ r h', post r h' → At X (cells + mc) (slots + ms) 13 ls (.int r :: rest) h') : At X cells slots 10 ls (a1 :: a0 :: rest) h :=
  st_callS (pc := 10) (M := mJ9_floorMod_7cf53) (idx := 22) (As := [a0, a1]) C.1 C.2.2.1 C.2.2.2.2.2.2 (n := 2) ⟨wM_RX4_22, wC_J9_floorMod_7cf53, wI_RJ9, by decide +kernel, by decide⟩ wT_J9_floorMod_7cf53 dX4_slotOf_10 rfl hdd hcat hct hmc hms (fun v h2 hp => by obtain ⟨r, rfl, hp⟩ := hp; exact kk r h2 hp)
theorem sgX4_kindOf_0 {X : CX} {d mc ms cells slots : Nat} {pp : Int32 → Hp → Prop} {h : Hp} {t : Nat} {x1 : Int32}  (C : CmI X mX4_kindOf d mc ms pp) (h0 : h.K t = 5) (k0 : At X cells slots 6 [some (va_rf (some t)), some (.int x1)] [.int x1, va_rf (some t), va_rf (h.R 400 t)] h) : At X cells slots 0 [some (va_rf (some t)), some (.int x1)] [] h := by
  refine st_aload_n (pc := 0) C.1 (some t) dX4_kindOf_0 rfl rfl ?_
  refine gR_RX4_9 (pc := 1) C.1 (h.R 400 t) dX4_kindOf_1 h0 rfl ?_
  refine st_aload_n (pc := 4) C.1 (some t) dX4_kindOf_4 rfl rfl ?_
  refine st_iload_n (pc := 5) C.1 dX4_kindOf_5 rfl rfl ?_
  exact k0

theorem sgX4_kindOf_9 {X : CX} {d mc ms cells slots : Nat} {pp : Int32 → Hp → Prop} {h : Hp} {t : Nat} {x1 : Int32} {u0 : Int32} {q1 : Nat}  (C : CmI X mX4_kindOf d mc ms pp) (hc : cells ≤ mc) (hs : slots ≤ ms) (h0 : h.K q1 = 11) (h1 : vp_in u0 (h.N q1)) (k0 : pp (h.AI q1 (u0.toNatClampNeg)) h) : At X cells slots 9 [some (va_rf (some t)), some (.int x1)] [.int u0, va_rf (some q1)] h := by
  refine sv_iaload (pc := 9) C.1 (h.AI q1 (u0.toNatClampNeg)) dX4_kindOf_9 h0 h1 rfl ?_
  exact rt_i C (Or.inl rfl) dX4_kindOf_10 hc hs ⟨_, rfl, k0⟩

theorem clX4_kindOf_6 {X : CX} {d0 mc0 ms0 d mc ms cells slots : Nat} {pp : Int32 → Hp → Prop} {h : Hp} {ls : List (Option Value)} {rest : List Value} {b : Nat} {a0 : Value} {post : Int32 → Hp → Prop} (C : CmI X mX4_kindOf d0 mc0 ms0 pp) (hct : CtI mX4_slotOf d mc ms [va_rf (some b), a0] h post) (hK : h.K b = 5) (hdd : d < d0) (hmc : cells + mc ≤ mc0) (hms : slots + ms ≤ ms0) (hcat : (rest.map fun v => v.category).sum ≤ 8) (kk : ∀ r h', post r h' → At X (cells + mc) (slots + ms) 9 ls (.int r :: rest) h') : At X cells slots 6 ls (a0 :: va_rf (some b) :: rest) h :=
  st_callV (pc := 6) (M := mX4_slotOf) (idx := 28) (As := [a0]) C.1 C.2.2.1 C.2.2.2.2.2.2 ⟨wM_RX4_28, wC_X4_slotOf, wI_RX4, by decide +kernel, by decide⟩ wV_X4_slotOf wS_X4_slotOf (ci := 4) (n := 1) rfl rfl (by decide) dX4_kindOf_6 rfl hdd hcat hK hct hmc hms (fun v h2 hp => by obtain ⟨r, rfl, hp⟩ := hp; exact kk r h2 hp)
theorem sgX4_addressOf_0 {X : CX} {d mc ms cells slots : Nat} {pp : Int32 → Hp → Prop} {h : Hp} {t : Nat} {x1 : Int32}  (C : CmI X mX4_addressOf d mc ms pp) (h0 : h.K t = 5) (k0 : At X cells slots 6 [some (va_rf (some t)), some (.int x1)] [.int x1, va_rf (some t), va_rf (h.R 401 t)] h) : At X cells slots 0 [some (va_rf (some t)), some (.int x1)] [] h := by
  refine st_aload_n (pc := 0) C.1 (some t) dX4_addressOf_0 rfl rfl ?_
  refine gR_RX4_15 (pc := 1) C.1 (h.R 401 t) dX4_addressOf_1 h0 rfl ?_
  refine st_aload_n (pc := 4) C.1 (some t) dX4_addressOf_4 rfl rfl ?_
  refine st_iload_n (pc := 5) C.1 dX4_addressOf_5 rfl rfl ?_
  exact k0

theorem sgX4_addressOf_9 {X : CX} {d mc ms cells slots : Nat} {pp : Int32 → Hp → Prop} {h : Hp} {t : Nat} {x1 : Int32} {u0 : Int32} {q1 : Nat}  (C : CmI X mX4_addressOf d mc ms pp) (hc : cells ≤ mc) (hs : slots ≤ ms) (h0 : h.K q1 = 11) (h1 : vp_in u0 (h.N q1)) (k0 : pp (h.AI q1 (u0.toNatClampNeg)) h) : At X cells slots 9 [some (va_rf (some t)), some (.int x1)] [.int u0, va_rf (some q1)] h := by
  refine sv_iaload (pc := 9) C.1 (h.AI q1 (u0.toNatClampNeg)) dX4_addressOf_9 h0 h1 rfl ?_
  exact rt_i C (Or.inl rfl) dX4_addressOf_10 hc hs ⟨_, rfl, k0⟩

theorem clX4_addressOf_6 {X : CX} {d0 mc0 ms0 d mc ms cells slots : Nat} {pp : Int32 → Hp → Prop} {h : Hp} {ls : List (Option Value)} {rest : List Value} {b : Nat} {a0 : Value} {post : Int32 → Hp → Prop} (C : CmI X mX4_addressOf d0 mc0 ms0 pp) (hct : CtI mX4_slotOf d mc ms [va_rf (some b), a0] h post) (hK : h.K b = 5) (hdd : d < d0) (hmc : cells + mc ≤ mc0) (hms : slots + ms ≤ ms0) (hcat : (rest.map fun v => v.category).sum ≤ 8) (kk : ∀ r h', post r h' → At X (cells + mc) (slots + ms) 9 ls (.int r :: rest) h') : At X cells slots 6 ls (a0 :: va_rf (some b) :: rest) h :=
  st_callV (pc := 6) (M := mX4_slotOf) (idx := 28) (As := [a0]) C.1 C.2.2.1 C.2.2.2.2.2.2 ⟨wM_RX4_28, wC_X4_slotOf, wI_RX4, by decide +kernel, by decide⟩ wV_X4_slotOf wS_X4_slotOf (ci := 4) (n := 1) rfl rfl (by decide) dX4_addressOf_6 rfl hdd hcat hK hct hmc hms (fun v h2 hp => by obtain ⟨r, rfl, hp⟩ := hp; exact kk r h2 hp)
theorem sgX6_init_0 {X : CX} {d mc ms cells slots : Nat} {pp : Hp → Prop} {h : Hp} {t : Nat} {x1 : Int32}  (C : CmV X mX6_init d mc ms pp) (hr1 : 1 ≤ d)  (k0 : At X cells slots 6 [some (va_rf (some t)), some (.int x1)] [.int x1, va_rf (some t)] h) : At X cells slots 0 [some (va_rf (some t)), some (.int x1)] [] h := by
  refine st_aload_n (pc := 0) C.1 (some t) dX6_init_0 rfl rfl ?_
  refine st_objInit (pc := 1) C.1 wM_RX6_1 wObjI wObjC dX6_init_1 (by rw [C.2.2.1]; exact hr1) (by rw [C.2.2.1]; exact Nat.le_trans (Nat.le_of_ble_eq_true rfl) (Nat.mul_le_mul_left 30 hr1)) ?_
  refine st_aload_n (pc := 4) C.1 (some t) dX6_init_4 rfl rfl ?_
  refine st_iload_n (pc := 5) C.1 dX6_init_5 rfl rfl ?_
  exact k0

theorem sgX6_init_8 {X : CX} {d mc ms cells slots : Nat} {pp : Hp → Prop} {h : Hp} {t : Nat} {x1 : Int32} {p0 : Option Nat} {q1 : Nat}  (C : CmV X mX6_init d mc ms pp) (hc : cells ≤ mc) (hs : slots ≤ ms) (h0 : h.K q1 = 7) (k0 : pp (h.sR 600 q1 p0)) : At X cells slots 8 [some (va_rf (some t)), some (.int x1)] [va_rf p0, va_rf (some q1)] h := by
  refine pR_RX6_7 (pc := 8) C.1 p0 dX6_init_8 h0 C.2.2.2.2.1 ?_
  exact rt_v C rfl dX6_init_11 hc hs ⟨rfl, k0⟩

theorem nwX6_init_6 {X : CX} {d0 mc0 ms0 cells slots : Nat} {pp : Hp → Prop} {h : Hp} {ls : List (Option Value)} {st : List Value} {n : Int32} (C : CmV X mX6_init d0 mc0 ms0 pp) (hn : ¬ n < 0) (hb : n.toNatClampNeg ≤ 60000000) (hmc : cells + 1 ≤ mc0) (hms : slots + n.toNatClampNeg ≤ ms0) (kk : ∀ q, h.K q = 0 → At X (cells + 1) (slots + n.toNatClampNeg) 8 ls (va_rf (some q) :: st) (h.nw q 11 n.toNatClampNeg)) : At X cells slots 6 ls (.int n :: st) h :=
  st_newarray (pc := 6) C.1 11 0 (by simp) wA_int dX6_init_6 hn hb (by rw [C.2.2.1]; exact hmc) (by rw [C.2.2.1]; exact hms) kk
theorem sgX6_has_0 {X : CX} {d mc ms cells slots : Nat} {pp : Int32 → Hp → Prop} {h : Hp} {t : Nat} {x1 : Int32} {r0 : Nat} (C : CmI X mX6_has d mc ms pp) (hc : cells ≤ mc) (hs : slots ≤ ms) (h0 : h.K t = 7) (h1 : h.R 600 t = some r0) (h2 : h.K r0 = 11) (k0 : x1 < 0 → pp 0 h) (k1 : ¬ x1 < 0 → nI (h.N r0) ≤ x1 → pp 0 h) (k2 : ¬ x1 < 0 → ¬ nI (h.N r0) ≤ x1 → pp 1 h) : At X cells slots 0 [some (va_rf (some t)), some (.int x1)] [] h := by
  refine st_iload_n (pc := 0) C.1 dX6_has_0 rfl rfl ?_
  refine st_if_lt (pc := 1) (tgt := 17) C.1 dX6_has_1 (by decide) (fun c0 => ?_) (fun c0 => ?_)
  · refine st_iconst (pc := 17) (v := 0) C.1 dX6_has_17 (by decide) ?_
    exact rt_i C (Or.inr ⟨rfl, (Or.inl rfl)⟩) dX6_has_18 hc hs ⟨_, rfl, (k0 c0)⟩
  · refine st_iload_n (pc := 4) C.1 dX6_has_4 rfl rfl ?_
    refine st_aload_n (pc := 5) C.1 (some t) dX6_has_5 rfl rfl ?_
    refine gR_RX6_7 (pc := 6) C.1 (some r0) dX6_has_6 h0 h1 ?_
    refine st_alen (pc := 9) C.1 dX6_has_9 (Or.inl h2) ?_
    refine st_icmp_ge (pc := 10) (tgt := 17) C.1 dX6_has_10 (by decide) (fun c1 => ?_) (fun c1 => ?_)
    · refine st_iconst (pc := 17) (v := 0) C.1 dX6_has_17 (by decide) ?_
      exact rt_i C (Or.inr ⟨rfl, (Or.inl rfl)⟩) dX6_has_18 hc hs ⟨_, rfl, (k1 c0 c1)⟩
    · refine st_iconst (pc := 13) (v := 1) C.1 dX6_has_13 (by decide) ?_
      refine st_goto (pc := 14) (tgt := 18) C.1 dX6_has_14 (by decide) ?_
      exact rt_i C (Or.inr ⟨rfl, (Or.inr rfl)⟩) dX6_has_18 hc hs ⟨_, rfl, (k2 c0 c1)⟩

theorem sgX6_read_0 {X : CX} {d mc ms cells slots : Nat} {pp : Int32 → Hp → Prop} {h : Hp} {t : Nat} {x1 : Int32}  (C : CmI X mX6_read d mc ms pp)  (k0 : At X cells slots 2 [some (va_rf (some t)), some (.int x1)] [.int x1, va_rf (some t)] h) : At X cells slots 0 [some (va_rf (some t)), some (.int x1)] [] h := by
  refine st_aload_n (pc := 0) C.1 (some t) dX6_read_0 rfl rfl ?_
  refine st_iload_n (pc := 1) C.1 dX6_read_1 rfl rfl ?_
  exact k0

theorem sgX6_read_5 {X : CX} {d mc ms cells slots : Nat} {pp : Int32 → Hp → Prop} {h : Hp} {t : Nat} {x1 : Int32} {u0 : Int32} {r0 : Nat} (C : CmI X mX6_read d mc ms pp) (hc : cells ≤ mc) (hs : slots ≤ ms) (h0 : h.K t = 7) (h1 : h.R 600 t = some r0) (h2 : h.K r0 = 11) (h3 : ¬ u0 = 0 → vp_in x1 (h.N r0)) (k0 : u0 = 0 → pp 0 h) (k1 : ¬ u0 = 0 → pp (h.AI r0 (x1.toNatClampNeg)) h) : At X cells slots 5 [some (va_rf (some t)), some (.int x1)] [.int u0] h := by
  refine st_if_eq (pc := 5) (tgt := 17) C.1 dX6_read_5 (by decide) (fun c0 => ?_) (fun c0 => ?_)
  · refine st_iconst (pc := 17) (v := 0) C.1 dX6_read_17 (by decide) ?_
    exact rt_i C (Or.inl rfl) dX6_read_18 hc hs ⟨_, rfl, (k0 c0)⟩
  · refine st_aload_n (pc := 8) C.1 (some t) dX6_read_8 rfl rfl ?_
    refine gR_RX6_7 (pc := 9) C.1 (some r0) dX6_read_9 h0 h1 ?_
    refine st_iload_n (pc := 12) C.1 dX6_read_12 rfl rfl ?_
    refine sv_iaload (pc := 13) C.1 (h.AI r0 (x1.toNatClampNeg)) dX6_read_13 h2 (h3 c0) rfl ?_
    refine st_goto (pc := 14) (tgt := 18) C.1 dX6_read_14 (by decide) ?_
    exact rt_i C (Or.inl rfl) dX6_read_18 hc hs ⟨_, rfl, (k1 c0)⟩

theorem clX6_read_2 {X : CX} {d0 mc0 ms0 d mc ms cells slots : Nat} {pp : Int32 → Hp → Prop} {h : Hp} {ls : List (Option Value)} {rest : List Value} {b : Nat} {a0 : Value} {post : Int32 → Hp → Prop} (C : CmI X mX6_read d0 mc0 ms0 pp) (hct : CtI mX6_has d mc ms [va_rf (some b), a0] h post) (hK : h.K b = 7) (hdd : d < d0) (hmc : cells + mc ≤ mc0) (hms : slots + ms ≤ ms0) (hcat : (rest.map fun v => v.category).sum ≤ 8) (kk : ∀ r h', post r h' → At X (cells + mc) (slots + ms) 5 ls (.int r :: rest) h') : At X cells slots 2 ls (a0 :: va_rf (some b) :: rest) h :=
  st_callV (pc := 2) (M := mX6_has) (idx := 13) (As := [a0]) C.1 C.2.2.1 C.2.2.2.2.2.2 ⟨wM_RX6_13, wC_X6_has, wI_RX6, by decide +kernel, by decide⟩ wV_X6_has wS_X6_has (ci := 6) (n := 1) rfl rfl (by decide) dX6_read_2 rfl hdd hcat hK hct hmc hms (fun v h2 hp => by obtain ⟨r, rfl, hp⟩ := hp; exact kk r h2 hp)
theorem sgX6_write_0 {X : CX} {d mc ms cells slots : Nat} {pp : Hp → Prop} {h : Hp} {t : Nat} {x1 : Int32} {x2 : Int32}  (C : CmV X mX6_write d mc ms pp)  (k0 : At X cells slots 2 [some (va_rf (some t)), some (.int x1), some (.int x2)] [.int x1, va_rf (some t)] h) : At X cells slots 0 [some (va_rf (some t)), some (.int x1), some (.int x2)] [] h := by
  refine st_aload_n (pc := 0) C.1 (some t) dX6_write_0 rfl rfl ?_
  refine st_iload_n (pc := 1) C.1 dX6_write_1 rfl rfl ?_
  exact k0

theorem sgX6_write_5 {X : CX} {d mc ms cells slots : Nat} {pp : Hp → Prop} {h : Hp} {t : Nat} {x1 : Int32} {x2 : Int32} {u0 : Int32} {r0 : Nat} (C : CmV X mX6_write d mc ms pp) (hc : cells ≤ mc) (hs : slots ≤ ms) (h0 : h.K t = 7) (h1 : h.R 600 t = some r0) (h2 : h.K r0 = 11) (h3 : ¬ u0 = 0 → vp_in x1 (h.N r0)) (k0 : u0 = 0 → pp h) (k1 : ¬ u0 = 0 → pp (h.sAI r0 (x1.toNatClampNeg) x2)) : At X cells slots 5 [some (va_rf (some t)), some (.int x1), some (.int x2)] [.int u0] h := by
  refine st_if_eq (pc := 5) (tgt := 15) C.1 dX6_write_5 (by decide) (fun c0 => ?_) (fun c0 => ?_)
  · exact rt_v C rfl dX6_write_15 hc hs ⟨rfl, (k0 c0)⟩
  · refine st_aload_n (pc := 8) C.1 (some t) dX6_write_8 rfl rfl ?_
    refine gR_RX6_7 (pc := 9) C.1 (some r0) dX6_write_9 h0 h1 ?_
    refine st_iload_n (pc := 12) C.1 dX6_write_12 rfl rfl ?_
    refine st_iload_n (pc := 13) C.1 dX6_write_13 rfl rfl ?_
    refine st_iastore (pc := 14) C.1 dX6_write_14 h2 (h3 c0) ?_
    exact rt_v C rfl dX6_write_15 hc hs ⟨rfl, (k1 c0)⟩

theorem clX6_write_2 {X : CX} {d0 mc0 ms0 d mc ms cells slots : Nat} {pp : Hp → Prop} {h : Hp} {ls : List (Option Value)} {rest : List Value} {b : Nat} {a0 : Value} {post : Int32 → Hp → Prop} (C : CmV X mX6_write d0 mc0 ms0 pp) (hct : CtI mX6_has d mc ms [va_rf (some b), a0] h post) (hK : h.K b = 7) (hdd : d < d0) (hmc : cells + mc ≤ mc0) (hms : slots + ms ≤ ms0) (hcat : (rest.map fun v => v.category).sum ≤ 8) (kk : ∀ r h', post r h' → At X (cells + mc) (slots + ms) 5 ls (.int r :: rest) h') : At X cells slots 2 ls (a0 :: va_rf (some b) :: rest) h :=
  st_callV (pc := 2) (M := mX6_has) (idx := 13) (As := [a0]) C.1 C.2.2.1 C.2.2.2.2.2.2 ⟨wM_RX6_13, wC_X6_has, wI_RX6, by decide +kernel, by decide⟩ wV_X6_has wS_X6_has (ci := 6) (n := 1) rfl rfl (by decide) dX6_write_2 rfl hdd hcat hK hct hmc hms (fun v h2 hp => by obtain ⟨r, rfl, hp⟩ := hp; exact kk r h2 hp)
theorem sgX6_clear_0 {X : CX} {d mc ms cells slots : Nat} {pp : Hp → Prop} {h : Hp} {t : Nat} {x1 : Int32} {x2 : Int32}  (C : CmV X mX6_clear d mc ms pp)  (k0 : At X cells slots 2 [some (va_rf (some t)), some (.int x1), some (.int x2), some (.int 0)] [] h) : At X cells slots 0 [some (va_rf (some t)), some (.int x1), some (.int x2), none] [] h := by
  refine st_iconst (pc := 0) (v := 0) C.1 dX6_clear_0 (by decide) ?_
  refine sv_istore_n (pc := 1) (i := 3) C.1 [some (va_rf (some t)), some (.int x1), some (.int x2), some (.int 0)] dX6_clear_1 rfl (Nat.le_of_ble_eq_true rfl) (by rw [C.2.1]; exact Nat.le_of_ble_eq_true rfl) rfl rfl ?_
  exact k0

theorem sgX6_clear_2 {X : CX} {d mc ms cells slots : Nat} {pp : Hp → Prop} {h : Hp} {t : Nat} {x1 : Int32} {x2 : Int32} {x3 : Int32}  (C : CmV X mX6_clear d mc ms pp) (hc : cells ≤ mc) (hs : slots ≤ ms)  (k0 : x2 ≤ x3 → pp h) (k1 : ¬ x2 ≤ x3 → At X cells slots 12 [some (va_rf (some t)), some (.int x1), some (.int x2), some (.int x3)] [.int 0, .int (x1 + x3), va_rf (some t)] h) : At X cells slots 2 [some (va_rf (some t)), some (.int x1), some (.int x2), some (.int x3)] [] h := by
  refine st_iload_n (pc := 2) C.1 dX6_clear_2 rfl rfl ?_
  refine st_iload_n (pc := 3) C.1 dX6_clear_3 rfl rfl ?_
  refine st_icmp_ge (pc := 4) (tgt := 21) C.1 dX6_clear_4 (by decide) (fun c0 => ?_) (fun c0 => ?_)
  · exact rt_v C rfl dX6_clear_21 hc hs ⟨rfl, (k0 c0)⟩
  · refine st_aload_n (pc := 7) C.1 (some t) dX6_clear_7 rfl rfl ?_
    refine st_iload_n (pc := 8) C.1 dX6_clear_8 rfl rfl ?_
    refine st_iload_n (pc := 9) C.1 dX6_clear_9 rfl rfl ?_
    refine st_iadd (pc := 10) C.1 dX6_clear_10 ?_
    refine st_iconst (pc := 11) (v := 0) C.1 dX6_clear_11 (by decide) ?_
    exact (k1 c0)

theorem sgX6_clear_15 {X : CX} {d mc ms cells slots : Nat} {pp : Hp → Prop} {h : Hp} {t : Nat} {x1 : Int32} {x2 : Int32} {x3 : Int32}  (C : CmV X mX6_clear d mc ms pp)  (k0 : At X cells slots 2 [some (va_rf (some t)), some (.int x1), some (.int x2), some (.int (x3 + 1))] [] h) : At X cells slots 15 [some (va_rf (some t)), some (.int x1), some (.int x2), some (.int x3)] [] h := by
  refine sv_iinc (pc := 15) (i := 3) (v := x3 + 1) C.1 [some (va_rf (some t)), some (.int x1), some (.int x2), some (.int (x3 + 1))] dX6_clear_15 rfl rfl (by rw [C.2.1]; exact Nat.le_of_ble_eq_true rfl) rfl rfl ?_
  refine st_goto (pc := 18) (tgt := 2) C.1 dX6_clear_18 (by decide) ?_
  exact k0

theorem clX6_clear_12 {X : CX} {d0 mc0 ms0 d mc ms cells slots : Nat} {pp : Hp → Prop} {h : Hp} {ls : List (Option Value)} {rest : List Value} {b : Nat} {a0 a1 : Value} {post : Hp → Prop} (C : CmV X mX6_clear d0 mc0 ms0 pp) (hct : CtV mX6_write d mc ms [va_rf (some b), a0, a1] h post) (hK : h.K b = 7) (hdd : d < d0) (hmc : cells + mc ≤ mc0) (hms : slots + ms ≤ ms0) (hcat : (rest.map fun v => v.category).sum ≤ 8) (kk : ∀ h', post h' → At X (cells + mc) (slots + ms) 15 ls rest h') : At X cells slots 12 ls (a1 :: a0 :: va_rf (some b) :: rest) h :=
  st_callV (pc := 12) (M := mX6_write) (idx := 17) (As := [a0, a1]) C.1 C.2.2.1 C.2.2.2.2.2.2 ⟨wM_RX6_17, wC_X6_write, wI_RX6, by decide +kernel, by decide⟩ wV_X6_write wS_X6_write (ci := 6) (n := 2) rfl rfl (by decide) dX6_clear_12 rfl hdd hcat hK hct hmc hms (fun v h2 hp => by obtain ⟨rfl, hp⟩ := hp; exact kk h2 hp)
theorem sgX6_move_0 {X : CX} {d mc ms cells slots : Nat} {pp : Hp → Prop} {h : Hp} {t : Nat} {x1 : Int32} {x2 : Int32} {x3 : Int32}  (C : CmV X mX6_move d mc ms pp) (hc : cells ≤ mc) (hs : slots ≤ ms)  (k0 : x3 ≤ 0 → pp h) (k1 : ¬ x3 ≤ 0 → At X cells slots 6 [some (va_rf (some t)), some (.int x1), some (.int x2), some (.int x3)] [.int x1, va_rf (some t)] h) : At X cells slots 0 [some (va_rf (some t)), some (.int x1), some (.int x2), some (.int x3)] [] h := by
  refine st_iload_n (pc := 0) C.1 dX6_move_0 rfl rfl ?_
  refine st_if_le (pc := 1) (tgt := 49) C.1 dX6_move_1 (by decide) (fun c0 => ?_) (fun c0 => ?_)
  · exact rt_v C rfl dX6_move_49 hc hs ⟨rfl, (k0 c0)⟩
  · refine st_aload_n (pc := 4) C.1 (some t) dX6_move_4 rfl rfl ?_
    refine st_iload_n (pc := 5) C.1 dX6_move_5 rfl rfl ?_
    exact (k1 c0)

theorem sgX6_move_9 {X : CX} {d mc ms cells slots : Nat} {pp : Hp → Prop} {h : Hp} {t : Nat} {x1 : Int32} {x2 : Int32} {x3 : Int32} {u0 : Int32}  (C : CmV X mX6_move d mc ms pp) (hc : cells ≤ mc) (hs : slots ≤ ms)  (k0 : u0 = 0 → pp h) (k1 : ¬ u0 = 0 → At X cells slots 14 [some (va_rf (some t)), some (.int x1), some (.int x2), some (.int x3)] [.int x2, va_rf (some t)] h) : At X cells slots 9 [some (va_rf (some t)), some (.int x1), some (.int x2), some (.int x3)] [.int u0] h := by
  refine st_if_eq (pc := 9) (tgt := 49) C.1 dX6_move_9 (by decide) (fun c0 => ?_) (fun c0 => ?_)
  · exact rt_v C rfl dX6_move_49 hc hs ⟨rfl, (k0 c0)⟩
  · refine st_aload_n (pc := 12) C.1 (some t) dX6_move_12 rfl rfl ?_
    refine st_iload_n (pc := 13) C.1 dX6_move_13 rfl rfl ?_
    exact (k1 c0)

theorem sgX6_move_17 {X : CX} {d mc ms cells slots : Nat} {pp : Hp → Prop} {h : Hp} {t : Nat} {x1 : Int32} {x2 : Int32} {x3 : Int32} {u0 : Int32} {r0 : Nat} (C : CmV X mX6_move d mc ms pp) (hc : cells ≤ mc) (hs : slots ≤ ms) (h0 : h.K t = 7) (h1 : h.R 600 t = some r0) (h2 : h.K r0 = 11) (k0 : u0 = 0 → pp h) (k1 : ¬ u0 = 0 → At X cells slots 28 [some (va_rf (some t)), some (.int x1), some (.int x2), some (.int x3)] [.int x2, .int x1, .int (nI (h.N r0)), .int x3] h) : At X cells slots 17 [some (va_rf (some t)), some (.int x1), some (.int x2), some (.int x3)] [.int u0] h := by
  refine st_if_eq (pc := 17) (tgt := 49) C.1 dX6_move_17 (by decide) (fun c0 => ?_) (fun c0 => ?_)
  · exact rt_v C rfl dX6_move_49 hc hs ⟨rfl, (k0 c0)⟩
  · refine st_iload_n (pc := 20) C.1 dX6_move_20 rfl rfl ?_
    refine st_aload_n (pc := 21) C.1 (some t) dX6_move_21 rfl rfl ?_
    refine gR_RX6_7 (pc := 22) C.1 (some r0) dX6_move_22 h0 h1 ?_
    refine st_alen (pc := 25) C.1 dX6_move_25 (Or.inl h2) ?_
    refine st_iload_n (pc := 26) C.1 dX6_move_26 rfl rfl ?_
    refine st_iload_n (pc := 27) C.1 dX6_move_27 rfl rfl ?_
    exact (k1 c0)

theorem sgX6_move_31 {X : CX} {d mc ms cells slots : Nat} {pp : Hp → Prop} {h : Hp} {t : Nat} {x1 : Int32} {x2 : Int32} {x3 : Int32} {u0 : Int32} {u1 : Int32} {u2 : Int32}  (C : CmV X mX6_move d mc ms pp) (hc : cells ≤ mc) (hs : slots ≤ ms) (h0 : h.K t = 7) (k0 : u1 - u0 < u2 → pp h) (k1 : ¬ u1 - u0 < u2 → At X cells slots 46 [some (va_rf (some t)), some (.int x1), some (.int x2), some (.int x3)] [.int x3, .int x2, va_rf (h.R 600 t), .int x1, va_rf (h.R 600 t)] h) : At X cells slots 31 [some (va_rf (some t)), some (.int x1), some (.int x2), some (.int x3)] [.int u0, .int u1, .int u2] h := by
  refine st_isub (pc := 31) C.1 dX6_move_31 ?_
  refine st_icmp_gt (pc := 32) (tgt := 49) C.1 dX6_move_32 (by decide) (fun c0 => ?_) (fun c0 => ?_)
  · exact rt_v C rfl dX6_move_49 hc hs ⟨rfl, (k0 c0)⟩
  · refine st_aload_n (pc := 35) C.1 (some t) dX6_move_35 rfl rfl ?_
    refine gR_RX6_7 (pc := 36) C.1 (h.R 600 t) dX6_move_36 h0 rfl ?_
    refine st_iload_n (pc := 39) C.1 dX6_move_39 rfl rfl ?_
    refine st_aload_n (pc := 40) C.1 (some t) dX6_move_40 rfl rfl ?_
    refine gR_RX6_7 (pc := 41) C.1 (h.R 600 t) dX6_move_41 h0 rfl ?_
    refine st_iload_n (pc := 44) C.1 dX6_move_44 rfl rfl ?_
    refine st_iload_n (pc := 45) C.1 dX6_move_45 rfl rfl ?_
    exact (k1 c0)

theorem sgX6_move_49 {X : CX} {d mc ms cells slots : Nat} {pp : Hp → Prop} {h : Hp} {t : Nat} {x1 : Int32} {x2 : Int32} {x3 : Int32}  (C : CmV X mX6_move d mc ms pp) (hc : cells ≤ mc) (hs : slots ≤ ms)  (k0 : pp h) : At X cells slots 49 [some (va_rf (some t)), some (.int x1), some (.int x2), some (.int x3)] [] h := by
  exact rt_v C rfl dX6_move_49 hc hs ⟨rfl, k0⟩

theorem clX6_move_6 {X : CX} {d0 mc0 ms0 d mc ms cells slots : Nat} {pp : Hp → Prop} {h : Hp} {ls : List (Option Value)} {rest : List Value} {b : Nat} {a0 : Value} {post : Int32 → Hp → Prop} (C : CmV X mX6_move d0 mc0 ms0 pp) (hct : CtI mX6_has d mc ms [va_rf (some b), a0] h post) (hK : h.K b = 7) (hdd : d < d0) (hmc : cells + mc ≤ mc0) (hms : slots + ms ≤ ms0) (hcat : (rest.map fun v => v.category).sum ≤ 8) (kk : ∀ r h', post r h' → At X (cells + mc) (slots + ms) 9 ls (.int r :: rest) h') : At X cells slots 6 ls (a0 :: va_rf (some b) :: rest) h :=
  st_callV (pc := 6) (M := mX6_has) (idx := 13) (As := [a0]) C.1 C.2.2.1 C.2.2.2.2.2.2 ⟨wM_RX6_13, wC_X6_has, wI_RX6, by decide +kernel, by decide⟩ wV_X6_has wS_X6_has (ci := 6) (n := 1) rfl rfl (by decide) dX6_move_6 rfl hdd hcat hK hct hmc hms (fun v h2 hp => by obtain ⟨r, rfl, hp⟩ := hp; exact kk r h2 hp)
theorem clX6_move_14 {X : CX} {d0 mc0 ms0 d mc ms cells slots : Nat} {pp : Hp → Prop} {h : Hp} {ls : List (Option Value)} {rest : List Value} {b : Nat} {a0 : Value} {post : Int32 → Hp → Prop} (C : CmV X mX6_move d0 mc0 ms0 pp) (hct : CtI mX6_has d mc ms [va_rf (some b), a0] h post) (hK : h.K b = 7) (hdd : d < d0) (hmc : cells + mc ≤ mc0) (hms : slots + ms ≤ ms0) (hcat : (rest.map fun v => v.category).sum ≤ 8) (kk : ∀ r h', post r h' → At X (cells + mc) (slots + ms) 17 ls (.int r :: rest) h') : At X cells slots 14 ls (a0 :: va_rf (some b) :: rest) h :=
  st_callV (pc := 14) (M := mX6_has) (idx := 13) (As := [a0]) C.1 C.2.2.1 C.2.2.2.2.2.2 ⟨wM_RX6_13, wC_X6_has, wI_RX6, by decide +kernel, by decide⟩ wV_X6_has wS_X6_has (ci := 6) (n := 1) rfl rfl (by decide) dX6_move_14 rfl hdd hcat hK hct hmc hms (fun v h2 hp => by obtain ⟨r, rfl, hp⟩ := hp; exact kk r h2 hp)
theorem clX6_move_28 {X : CX} {d0 mc0 ms0 d mc ms cells slots : Nat} {pp : Hp → Prop} {h : Hp} {ls : List (Option Value)} {rest : List Value} {a0 a1 : Value} {post : Int32 → Hp → Prop} (C : CmV X mX6_move d0 mc0 ms0 pp) (hct : CtI mJ9_max_7cf53 d mc ms [a0, a1] h post) (hdd : d < d0) (hmc : cells + mc ≤ mc0) (hms : slots + ms ≤ ms0) (hcat : (rest.map fun v => v.category).sum ≤ 8) (kk : ∀ r h', post r h' → At X (cells + mc) (slots + ms) 31 ls (.int r :: rest) h') : At X cells slots 28 ls (a1 :: a0 :: rest) h :=
  st_callS (pc := 28) (M := mJ9_max_7cf53) (idx := 21) (As := [a0, a1]) C.1 C.2.2.1 C.2.2.2.2.2.2 (n := 2) ⟨wM_RX6_21, wC_J9_max_7cf53, wI_RJ9, by decide +kernel, by decide⟩ wT_J9_max_7cf53 dX6_move_28 rfl hdd hcat hct hmc hms (fun v h2 hp => by obtain ⟨r, rfl, hp⟩ := hp; exact kk r h2 hp)
theorem sgX7_init_0 {X : CX} {d mc ms cells slots : Nat} {pp : Hp → Prop} {h : Hp} {t : Nat}  (C : CmV X mX7_init d mc ms pp) (hc : cells ≤ mc) (hs : slots ≤ ms) (hr1 : 1 ≤ d)  (k0 : pp h) : At X cells slots 0 [some (va_rf (some t))] [] h := by
  refine st_aload_n (pc := 0) C.1 (some t) dX7_init_0 rfl rfl ?_
  refine st_objInit (pc := 1) C.1 wM_RX7_1 wObjI wObjC dX7_init_1 (by rw [C.2.2.1]; exact hr1) (by rw [C.2.2.1]; exact Nat.le_trans (Nat.le_of_ble_eq_true rfl) (Nat.mul_le_mul_left 30 hr1)) ?_
  exact rt_v C rfl dX7_init_4 hc hs ⟨rfl, k0⟩

theorem sgX7_add_0 {X : CX} {d mc ms cells slots : Nat} {pp : Hp → Prop} {h : Hp} {t : Nat} {b1 : Nat}  (C : CmV X mX7_add d mc ms pp) (hc : cells ≤ mc) (hs : slots ≤ ms) (h0 : h.K t = 8) (h1 : ∀ z0 : Nat, h.R 701 t = some z0 → h.K z0 = 1) (h2 : h.K b1 = 1) (k0 : ∀ z0 : Nat, h.R 701 t = some z0 → pp ((((h.sR 8 z0 (some b1)).sR 701 t (some b1)).sI 702 t ((h.I 702 t) + 1)).sI 703 t ((h.I 703 t) + (h.I 1 b1)))) (k1 : h.R 701 t = none → pp ((((h.sR 700 t (some b1)).sR 701 t (some b1)).sI 702 t ((h.I 702 t) + 1)).sI 703 t ((h.I 703 t) + (h.I 1 b1)))) : At X cells slots 0 [some (va_rf (some t)), some (va_rf (some b1))] [] h := by
  refine st_aload_n (pc := 0) C.1 (some t) dX7_add_0 rfl rfl ?_
  refine gR_RX7_7 (pc := 1) C.1 (h.R 701 t) dX7_add_1 h0 rfl ?_
  refine st_ifnonnull (pc := 4) (o := h.R 701 t) (tgt := 15) C.1 dX7_add_4 (by decide) (fun z0 c0 => ?_) (fun c0 => ?_)
  · try rw [c0]
    refine st_aload_n (pc := 15) C.1 (some t) dX7_add_15 rfl rfl ?_
    refine gR_RX7_7 (pc := 16) C.1 (some z0) dX7_add_16 h0 c0 ?_
    refine st_aload_n (pc := 19) C.1 (some b1) dX7_add_19 rfl rfl ?_
    refine pR_RX7_16 (pc := 20) C.1 (some b1) dX7_add_20 (h1 z0 c0) ?_
    refine st_aload_n (pc := 23) C.1 (some t) dX7_add_23 rfl rfl ?_
    refine st_aload_n (pc := 24) C.1 (some b1) dX7_add_24 rfl rfl ?_
    refine pR_RX7_7 (pc := 25) C.1 (some b1) dX7_add_25 h0 ?_
    refine st_aload_n (pc := 28) C.1 (some t) dX7_add_28 rfl rfl ?_
    refine st_dup (pc := 29) C.1 dX7_add_29 (rf_cat (some t)) ?_
    refine gI_RX7_21 (pc := 30) C.1 (h.I 702 t) dX7_add_30 h0 rfl ?_
    refine st_iconst (pc := 33) (v := 1) C.1 dX7_add_33 (by decide) ?_
    refine st_iadd (pc := 34) C.1 dX7_add_34 ?_
    refine pI_RX7_21 (pc := 35) C.1 dX7_add_35 h0 ?_
    refine st_aload_n (pc := 38) C.1 (some t) dX7_add_38 rfl rfl ?_
    refine st_dup (pc := 39) C.1 dX7_add_39 (rf_cat (some t)) ?_
    refine gI_RX7_25 (pc := 40) C.1 (h.I 703 t) dX7_add_40 h0 rfl ?_
    refine st_aload_n (pc := 43) C.1 (some b1) dX7_add_43 rfl rfl ?_
    refine gI_RX7_28 (pc := 44) C.1 (h.I 1 b1) dX7_add_44 h2 rfl ?_
    refine st_iadd (pc := 47) C.1 dX7_add_47 ?_
    refine pI_RX7_25 (pc := 48) C.1 dX7_add_48 h0 ?_
    exact rt_v C rfl dX7_add_51 hc hs ⟨rfl, (k0 z0 c0)⟩
  · try rw [c0]
    refine st_aload_n (pc := 7) C.1 (some t) dX7_add_7 rfl rfl ?_
    refine st_aload_n (pc := 8) C.1 (some b1) dX7_add_8 rfl rfl ?_
    refine pR_RX7_13 (pc := 9) C.1 (some b1) dX7_add_9 h0 ?_
    refine st_goto (pc := 12) (tgt := 23) C.1 dX7_add_12 (by decide) ?_
    refine st_aload_n (pc := 23) C.1 (some t) dX7_add_23 rfl rfl ?_
    refine st_aload_n (pc := 24) C.1 (some b1) dX7_add_24 rfl rfl ?_
    refine pR_RX7_7 (pc := 25) C.1 (some b1) dX7_add_25 h0 ?_
    refine st_aload_n (pc := 28) C.1 (some t) dX7_add_28 rfl rfl ?_
    refine st_dup (pc := 29) C.1 dX7_add_29 (rf_cat (some t)) ?_
    refine gI_RX7_21 (pc := 30) C.1 (h.I 702 t) dX7_add_30 h0 rfl ?_
    refine st_iconst (pc := 33) (v := 1) C.1 dX7_add_33 (by decide) ?_
    refine st_iadd (pc := 34) C.1 dX7_add_34 ?_
    refine pI_RX7_21 (pc := 35) C.1 dX7_add_35 h0 ?_
    refine st_aload_n (pc := 38) C.1 (some t) dX7_add_38 rfl rfl ?_
    refine st_dup (pc := 39) C.1 dX7_add_39 (rf_cat (some t)) ?_
    refine gI_RX7_25 (pc := 40) C.1 (h.I 703 t) dX7_add_40 h0 rfl ?_
    refine st_aload_n (pc := 43) C.1 (some b1) dX7_add_43 rfl rfl ?_
    refine gI_RX7_28 (pc := 44) C.1 (h.I 1 b1) dX7_add_44 h2 rfl ?_
    refine st_iadd (pc := 47) C.1 dX7_add_47 ?_
    refine pI_RX7_25 (pc := 48) C.1 dX7_add_48 h0 ?_
    exact rt_v C rfl dX7_add_51 hc hs ⟨rfl, (k1 c0)⟩

theorem sgX7_takeFirst_0 {X : CX} {d mc ms cells slots : Nat} {pp : Option Nat → Hp → Prop} {h : Hp} {t : Nat}  (C : CmR X mX7_takeFirst d mc ms pp) (hc : cells ≤ mc) (hs : slots ≤ ms) (h0 : h.K t = 8) (h1 : ∀ z0 : Nat, h.R 700 t = some z0 → h.K z0 = 1) (h2 : ∀ z0 : Nat, h.R 700 t = some z0 → ∀ z1 : Nat, (h.sR 700 t (h.R 8 z0)).R 700 t = some z1 → h.K z0 = 1) (h3 : ∀ z0 : Nat, h.R 700 t = some z0 → (h.sR 700 t (h.R 8 z0)).R 700 t = none → h.K z0 = 1) (k0 : ∀ z0 : Nat, h.R 700 t = some z0 → ∀ z1 : Nat, (h.sR 700 t (h.R 8 z0)).R 700 t = some z1 → pp (some z0) ((((h.sR 700 t (h.R 8 z0)).sR 8 z0 none).sI 702 t ((h.I 702 t) - 1)).sI 703 t ((h.I 703 t) - (h.I 1 z0)))) (k1 : ∀ z0 : Nat, h.R 700 t = some z0 → (h.sR 700 t (h.R 8 z0)).R 700 t = none → pp (some z0) (((((h.sR 700 t (h.R 8 z0)).sR 701 t none).sR 8 z0 none).sI 702 t ((h.I 702 t) - 1)).sI 703 t ((h.I 703 t) - (h.I 1 z0)))) (k2 : h.R 700 t = none → pp none h) : At X cells slots 0 [some (va_rf (some t)), none] [] h := by
  refine st_aload_n (pc := 0) C.1 (some t) dX7_takeFirst_0 rfl rfl ?_
  refine gR_RX7_13 (pc := 1) C.1 (h.R 700 t) dX7_takeFirst_1 h0 rfl ?_
  refine sv_astore_n (pc := 4) (i := 1) C.1 [some (va_rf (some t)), some (va_rf (h.R 700 t))] (h.R 700 t) dX7_takeFirst_4 rfl (Nat.le_of_ble_eq_true rfl) (by rw [C.2.1]; exact Nat.le_of_ble_eq_true rfl) rfl rfl ?_
  refine st_aload_n (pc := 5) C.1 (h.R 700 t) dX7_takeFirst_5 rfl rfl ?_
  refine st_ifnonnull (pc := 6) (o := h.R 700 t) (tgt := 11) C.1 dX7_takeFirst_6 (by decide) (fun z0 c0 => ?_) (fun c0 => ?_)
  · try rw [c0]
    refine st_aload_n (pc := 11) C.1 (some t) dX7_takeFirst_11 rfl rfl ?_
    refine st_aload_n (pc := 12) C.1 (some z0) dX7_takeFirst_12 rfl rfl ?_
    refine gR_RX7_16 (pc := 13) C.1 (h.R 8 z0) dX7_takeFirst_13 (h1 z0 c0) rfl ?_
    refine pR_RX7_13 (pc := 16) C.1 (h.R 8 z0) dX7_takeFirst_16 h0 ?_
    refine st_aload_n (pc := 19) C.1 (some t) dX7_takeFirst_19 rfl rfl ?_
    refine gR_RX7_13 (pc := 20) C.1 ((h.sR 700 t (h.R 8 z0)).R 700 t) dX7_takeFirst_20 h0 rfl ?_
    refine st_ifnonnull (pc := 23) (o := (h.sR 700 t (h.R 8 z0)).R 700 t) (tgt := 31) C.1 dX7_takeFirst_23 (by decide) (fun z1 c1 => ?_) (fun c1 => ?_)
    · try rw [c1]
      refine st_aload_n (pc := 31) C.1 (some z0) dX7_takeFirst_31 rfl rfl ?_
      refine st_nullq (pc := 32) C.1 dX7_takeFirst_32 ?_
      refine pR_RX7_16 (pc := 33) C.1 none dX7_takeFirst_33 (h2 z0 c0 z1 c1) ?_
      refine st_aload_n (pc := 36) C.1 (some t) dX7_takeFirst_36 rfl rfl ?_
      refine st_dup (pc := 37) C.1 dX7_takeFirst_37 (rf_cat (some t)) ?_
      refine gI_RX7_21 (pc := 38) C.1 (h.I 702 t) dX7_takeFirst_38 h0 rfl ?_
      refine st_iconst (pc := 41) (v := 1) C.1 dX7_takeFirst_41 (by decide) ?_
      refine st_isub (pc := 42) C.1 dX7_takeFirst_42 ?_
      refine pI_RX7_21 (pc := 43) C.1 dX7_takeFirst_43 h0 ?_
      refine st_aload_n (pc := 46) C.1 (some t) dX7_takeFirst_46 rfl rfl ?_
      refine st_dup (pc := 47) C.1 dX7_takeFirst_47 (rf_cat (some t)) ?_
      refine gI_RX7_25 (pc := 48) C.1 (h.I 703 t) dX7_takeFirst_48 h0 rfl ?_
      refine st_aload_n (pc := 51) C.1 (some z0) dX7_takeFirst_51 rfl rfl ?_
      refine gI_RX7_28 (pc := 52) C.1 (h.I 1 z0) dX7_takeFirst_52 (h2 z0 c0 z1 c1) rfl ?_
      refine st_isub (pc := 55) C.1 dX7_takeFirst_55 ?_
      refine pI_RX7_25 (pc := 56) C.1 dX7_takeFirst_56 h0 ?_
      refine st_aload_n (pc := 59) C.1 (some z0) dX7_takeFirst_59 rfl rfl ?_
      exact rt_a C (some z0) rfl dX7_takeFirst_60 hc hs ⟨_, rfl, (k0 z0 c0 z1 c1)⟩
    · try rw [c1]
      refine st_aload_n (pc := 26) C.1 (some t) dX7_takeFirst_26 rfl rfl ?_
      refine st_nullq (pc := 27) C.1 dX7_takeFirst_27 ?_
      refine pR_RX7_7 (pc := 28) C.1 none dX7_takeFirst_28 h0 ?_
      refine st_aload_n (pc := 31) C.1 (some z0) dX7_takeFirst_31 rfl rfl ?_
      refine st_nullq (pc := 32) C.1 dX7_takeFirst_32 ?_
      refine pR_RX7_16 (pc := 33) C.1 none dX7_takeFirst_33 (h3 z0 c0 c1) ?_
      refine st_aload_n (pc := 36) C.1 (some t) dX7_takeFirst_36 rfl rfl ?_
      refine st_dup (pc := 37) C.1 dX7_takeFirst_37 (rf_cat (some t)) ?_
      refine gI_RX7_21 (pc := 38) C.1 (h.I 702 t) dX7_takeFirst_38 h0 rfl ?_
      refine st_iconst (pc := 41) (v := 1) C.1 dX7_takeFirst_41 (by decide) ?_
      refine st_isub (pc := 42) C.1 dX7_takeFirst_42 ?_
      refine pI_RX7_21 (pc := 43) C.1 dX7_takeFirst_43 h0 ?_
      refine st_aload_n (pc := 46) C.1 (some t) dX7_takeFirst_46 rfl rfl ?_
      refine st_dup (pc := 47) C.1 dX7_takeFirst_47 (rf_cat (some t)) ?_
      refine gI_RX7_25 (pc := 48) C.1 (h.I 703 t) dX7_takeFirst_48 h0 rfl ?_
      refine st_aload_n (pc := 51) C.1 (some z0) dX7_takeFirst_51 rfl rfl ?_
      refine gI_RX7_28 (pc := 52) C.1 (h.I 1 z0) dX7_takeFirst_52 (h3 z0 c0 c1) rfl ?_
      refine st_isub (pc := 55) C.1 dX7_takeFirst_55 ?_
      refine pI_RX7_25 (pc := 56) C.1 dX7_takeFirst_56 h0 ?_
      refine st_aload_n (pc := 59) C.1 (some z0) dX7_takeFirst_59 rfl rfl ?_
      exact rt_a C (some z0) rfl dX7_takeFirst_60 hc hs ⟨_, rfl, (k1 z0 c0 c1)⟩
  · try rw [c0]
    refine st_nullq (pc := 9) C.1 dX7_takeFirst_9 ?_
    exact rt_a C none rfl dX7_takeFirst_10 hc hs ⟨_, rfl, (k2 c0)⟩

theorem sgX7_behindFirst_0 {X : CX} {d mc ms cells slots : Nat} {pp : Option Nat → Hp → Prop} {h : Hp} {t : Nat} {x1 : Int32}  (C : CmR X mX7_behindFirst d mc ms pp) (hc : cells ≤ mc) (hs : slots ≤ ms) (h0 : h.K t = 8) (k0 : x1 < 0 → pp none h) (k1 : ¬ x1 < 0 → x1 < h.I 702 t → At X cells slots 21 [some (va_rf (some t)), some (.int x1), some (va_rf (h.R 700 t)), some (.int 0)] [] h) (k2 : ¬ x1 < 0 → ¬ x1 < h.I 702 t → pp none h) : At X cells slots 0 [some (va_rf (some t)), some (.int x1), none, none] [] h := by
  refine st_iload_n (pc := 0) C.1 dX7_behindFirst_0 rfl rfl ?_
  refine st_if_lt (pc := 1) (tgt := 12) C.1 dX7_behindFirst_1 (by decide) (fun c0 => ?_) (fun c0 => ?_)
  · refine st_nullq (pc := 12) C.1 dX7_behindFirst_12 ?_
    exact rt_a C none rfl dX7_behindFirst_13 hc hs ⟨_, rfl, (k0 c0)⟩
  · refine st_iload_n (pc := 4) C.1 dX7_behindFirst_4 rfl rfl ?_
    refine st_aload_n (pc := 5) C.1 (some t) dX7_behindFirst_5 rfl rfl ?_
    refine gI_RX7_21 (pc := 6) C.1 (h.I 702 t) dX7_behindFirst_6 h0 rfl ?_
    refine st_icmp_lt (pc := 9) (tgt := 14) C.1 dX7_behindFirst_9 (by decide) (fun c1 => ?_) (fun c1 => ?_)
    · refine st_aload_n (pc := 14) C.1 (some t) dX7_behindFirst_14 rfl rfl ?_
      refine gR_RX7_13 (pc := 15) C.1 (h.R 700 t) dX7_behindFirst_15 h0 rfl ?_
      refine sv_astore_n (pc := 18) (i := 2) C.1 [some (va_rf (some t)), some (.int x1), some (va_rf (h.R 700 t)), none] (h.R 700 t) dX7_behindFirst_18 rfl (Nat.le_of_ble_eq_true rfl) (by rw [C.2.1]; exact Nat.le_of_ble_eq_true rfl) rfl rfl ?_
      refine st_iconst (pc := 19) (v := 0) C.1 dX7_behindFirst_19 (by decide) ?_
      refine sv_istore_n (pc := 20) (i := 3) C.1 [some (va_rf (some t)), some (.int x1), some (va_rf (h.R 700 t)), some (.int 0)] dX7_behindFirst_20 rfl (Nat.le_of_ble_eq_true rfl) (by rw [C.2.1]; exact Nat.le_of_ble_eq_true rfl) (l1_rf (o := h.R 700 t) rfl) rfl ?_
      exact (k1 c0 c1)
    · refine st_nullq (pc := 12) C.1 dX7_behindFirst_12 ?_
      exact rt_a C none rfl dX7_behindFirst_13 hc hs ⟨_, rfl, (k2 c0 c1)⟩

theorem sgX7_behindFirst_21 {X : CX} {d mc ms cells slots : Nat} {pp : Option Nat → Hp → Prop} {h : Hp} {t : Nat} {x1 : Int32} {o2 : Option Nat} {x3 : Int32}  (C : CmR X mX7_behindFirst d mc ms pp) (hc : cells ≤ mc) (hs : slots ≤ ms) (h0 : ¬ x1 ≤ x3 → ∀ z1 : Nat, o2 = some z1 → h.K z1 = 1) (k0 : x1 ≤ x3 → pp o2 h) (k1 : ¬ x1 ≤ x3 → o2 = none → pp none h) (k2 : ¬ x1 ≤ x3 → ∀ z1 : Nat, o2 = some z1 → At X cells slots 21 [some (va_rf (some t)), some (.int x1), some (va_rf (h.R 8 z1)), some (.int (x3 + 1))] [] h) : At X cells slots 21 [some (va_rf (some t)), some (.int x1), some (va_rf o2), some (.int x3)] [] h := by
  refine st_iload_n (pc := 21) C.1 dX7_behindFirst_21 rfl rfl ?_
  refine st_iload_n (pc := 22) C.1 dX7_behindFirst_22 rfl rfl ?_
  refine st_icmp_ge (pc := 23) (tgt := 41) C.1 dX7_behindFirst_23 (by decide) (fun c0 => ?_) (fun c0 => ?_)
  · refine st_aload_n (pc := 41) C.1 o2 dX7_behindFirst_41 rfl rfl ?_
    exact rt_a C o2 rfl dX7_behindFirst_42 hc hs ⟨_, rfl, (k0 c0)⟩
  · refine st_aload_n (pc := 26) C.1 o2 dX7_behindFirst_26 rfl rfl ?_
    refine st_ifnull (pc := 27) (o := o2) (tgt := 41) C.1 dX7_behindFirst_27 (by decide) (fun c1 => ?_) (fun z1 c1 => ?_)
    · try rw [c1]
      refine st_aload_n (pc := 41) C.1 none dX7_behindFirst_41 rfl rfl ?_
      exact rt_a C none rfl dX7_behindFirst_42 hc hs ⟨_, rfl, (k1 c0 c1)⟩
    · try rw [c1]
      refine st_aload_n (pc := 30) C.1 (some z1) dX7_behindFirst_30 rfl rfl ?_
      refine gR_RX7_16 (pc := 31) C.1 (h.R 8 z1) dX7_behindFirst_31 (h0 c0 z1 c1) rfl ?_
      refine sv_astore_n (pc := 34) (i := 2) C.1 [some (va_rf (some t)), some (.int x1), some (va_rf (h.R 8 z1)), some (.int x3)] (h.R 8 z1) dX7_behindFirst_34 rfl (Nat.le_of_ble_eq_true rfl) (by rw [C.2.1]; exact Nat.le_of_ble_eq_true rfl) rfl rfl ?_
      refine sv_iinc (pc := 35) (i := 3) (v := x3 + 1) C.1 [some (va_rf (some t)), some (.int x1), some (va_rf (h.R 8 z1)), some (.int (x3 + 1))] dX7_behindFirst_35 rfl rfl (by rw [C.2.1]; exact Nat.le_of_ble_eq_true rfl) (l1_rf (o := h.R 8 z1) rfl) rfl ?_
      refine st_goto (pc := 38) (tgt := 21) C.1 dX7_behindFirst_38 (by decide) ?_
      exact (k2 c0 z1 c1)

theorem sgJ9_floorMod_7cf53_0 {X : CX} {d mc ms cells slots : Nat} {pp : Int32 → Hp → Prop} {h : Hp} {x0 : Int32} {x1 : Int32}  (C : CmI X mJ9_floorMod_7cf53 d mc ms pp) (hc : cells ≤ mc) (hs : slots ≤ ms) (h0 : ¬ x1 = 0) (k0 : 0 ≤ x0 ^^^ x1 → pp (x0 - x0 / x1 * x1) h) (k1 : ¬ 0 ≤ x0 ^^^ x1 → x0 - x0 / x1 * x1 = 0 → pp (x0 - x0 / x1 * x1) h) (k2 : ¬ 0 ≤ x0 ^^^ x1 → ¬ x0 - x0 / x1 * x1 = 0 → pp ((x0 - x0 / x1 * x1) + x1) h) : At X cells slots 0 [some (.int x0), some (.int x1), none] [] h := by
  refine st_iload_n (pc := 0) C.1 dJ9_floorMod_7cf53_0 rfl rfl ?_
  refine st_iload_n (pc := 1) C.1 dJ9_floorMod_7cf53_1 rfl rfl ?_
  refine st_irem (pc := 2) C.1 dJ9_floorMod_7cf53_2 h0 ?_
  refine sv_istore_n (pc := 3) (i := 2) C.1 [some (.int x0), some (.int x1), some (.int (x0 - x0 / x1 * x1))] dJ9_floorMod_7cf53_3 rfl (Nat.le_of_ble_eq_true rfl) (by rw [C.2.1]; exact Nat.le_of_ble_eq_true rfl) rfl rfl ?_
  refine st_iload_n (pc := 4) C.1 dJ9_floorMod_7cf53_4 rfl rfl ?_
  refine st_iload_n (pc := 5) C.1 dJ9_floorMod_7cf53_5 rfl rfl ?_
  refine st_ixor (pc := 6) C.1 dJ9_floorMod_7cf53_6 ?_
  refine st_if_ge (pc := 7) (tgt := 18) C.1 dJ9_floorMod_7cf53_7 (by decide) (fun c0 => ?_) (fun c0 => ?_)
  · refine st_iload_n (pc := 18) C.1 dJ9_floorMod_7cf53_18 rfl rfl ?_
    exact rt_i C (Or.inl rfl) dJ9_floorMod_7cf53_19 hc hs ⟨_, rfl, (k0 c0)⟩
  · refine st_iload_n (pc := 10) C.1 dJ9_floorMod_7cf53_10 rfl rfl ?_
    refine st_if_eq (pc := 11) (tgt := 18) C.1 dJ9_floorMod_7cf53_11 (by decide) (fun c1 => ?_) (fun c1 => ?_)
    · refine st_iload_n (pc := 18) C.1 dJ9_floorMod_7cf53_18 rfl rfl ?_
      exact rt_i C (Or.inl rfl) dJ9_floorMod_7cf53_19 hc hs ⟨_, rfl, (k1 c0 c1)⟩
    · refine st_iload_n (pc := 14) C.1 dJ9_floorMod_7cf53_14 rfl rfl ?_
      refine st_iload_n (pc := 15) C.1 dJ9_floorMod_7cf53_15 rfl rfl ?_
      refine st_iadd (pc := 16) C.1 dJ9_floorMod_7cf53_16 ?_
      exact rt_i C (Or.inl rfl) dJ9_floorMod_7cf53_17 hc hs ⟨_, rfl, (k2 c0 c1)⟩

theorem sgJ9_max_7cf53_0 {X : CX} {d mc ms cells slots : Nat} {pp : Int32 → Hp → Prop} {h : Hp} {x0 : Int32} {x1 : Int32}  (C : CmI X mJ9_max_7cf53 d mc ms pp) (hc : cells ≤ mc) (hs : slots ≤ ms)  (k0 : x0 < x1 → pp x1 h) (k1 : ¬ x0 < x1 → pp x0 h) : At X cells slots 0 [some (.int x0), some (.int x1)] [] h := by
  refine st_iload_n (pc := 0) C.1 dJ9_max_7cf53_0 rfl rfl ?_
  refine st_iload_n (pc := 1) C.1 dJ9_max_7cf53_1 rfl rfl ?_
  refine st_icmp_lt (pc := 2) (tgt := 9) C.1 dJ9_max_7cf53_2 (by decide) (fun c0 => ?_) (fun c0 => ?_)
  · refine st_iload_n (pc := 9) C.1 dJ9_max_7cf53_9 rfl rfl ?_
    exact rt_i C (Or.inl rfl) dJ9_max_7cf53_10 hc hs ⟨_, rfl, (k0 c0)⟩
  · refine st_iload_n (pc := 5) C.1 dJ9_max_7cf53_5 rfl rfl ?_
    refine st_goto (pc := 6) (tgt := 10) C.1 dJ9_max_7cf53_6 (by decide) ?_
    exact rt_i C (Or.inl rfl) dJ9_max_7cf53_10 hc hs ⟨_, rfl, (k1 c0)⟩

theorem sgJ9_min_7cf53_0 {X : CX} {d mc ms cells slots : Nat} {pp : Int32 → Hp → Prop} {h : Hp} {x0 : Int32} {x1 : Int32}  (C : CmI X mJ9_min_7cf53 d mc ms pp) (hc : cells ≤ mc) (hs : slots ≤ ms)  (k0 : x1 < x0 → pp x1 h) (k1 : ¬ x1 < x0 → pp x0 h) : At X cells slots 0 [some (.int x0), some (.int x1)] [] h := by
  refine st_iload_n (pc := 0) C.1 dJ9_min_7cf53_0 rfl rfl ?_
  refine st_iload_n (pc := 1) C.1 dJ9_min_7cf53_1 rfl rfl ?_
  refine st_icmp_gt (pc := 2) (tgt := 9) C.1 dJ9_min_7cf53_2 (by decide) (fun c0 => ?_) (fun c0 => ?_)
  · refine st_iload_n (pc := 9) C.1 dJ9_min_7cf53_9 rfl rfl ?_
    exact rt_i C (Or.inl rfl) dJ9_min_7cf53_10 hc hs ⟨_, rfl, (k0 c0)⟩
  · refine st_iload_n (pc := 5) C.1 dJ9_min_7cf53_5 rfl rfl ?_
    refine st_goto (pc := 6) (tgt := 10) C.1 dJ9_min_7cf53_6 (by decide) ?_
    exact rt_i C (Or.inl rfl) dJ9_min_7cf53_10 hc hs ⟨_, rfl, (k1 c0)⟩

