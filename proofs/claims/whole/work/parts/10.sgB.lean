theorem dX3_init_0 : decode cX3_init 0 = .ok (.aload_n 0, 1) := by decide +kernel
theorem dX3_init_1 : decode cX3_init 1 = .ok (.invokespecial 3, 3) := by decide +kernel
theorem dX3_init_4 : decode cX3_init 4 = .ok (.aload_n 0, 1) := by decide +kernel
theorem dX3_init_5 : decode cX3_init 5 = .ok (.iload_n 1, 1) := by decide +kernel
theorem dX3_init_6 : decode cX3_init 6 = .ok (.putfield 9, 3) := by decide +kernel
theorem dX3_init_9 : decode cX3_init 9 = .ok (.aload_n 0, 1) := by decide +kernel
theorem dX3_init_10 : decode cX3_init 10 = .ok (.bipush 17, 2) := by decide +kernel
theorem dX3_init_12 : decode cX3_init 12 = .ok (.anewarray 15, 3) := by decide +kernel
theorem dX3_init_15 : decode cX3_init 15 = .ok (.putfield 17, 3) := by decide +kernel
theorem dX3_init_18 : decode cX3_init 18 = .ok (.aload_n 0, 1) := by decide +kernel
theorem dX3_init_19 : decode cX3_init 19 = .ok (.new 15, 3) := by decide +kernel
theorem dX3_init_22 : decode cX3_init 22 = .ok (.dup, 1) := by decide +kernel
theorem dX3_init_23 : decode cX3_init 23 = .ok (.iconst 0, 1) := by decide +kernel
theorem dX3_init_24 : decode cX3_init 24 = .ok (.iconst 0, 1) := by decide +kernel
theorem dX3_init_25 : decode cX3_init 25 = .ok (.invokespecial 21, 3) := by decide +kernel
theorem dX3_init_28 : decode cX3_init 28 = .ok (.putfield 24, 3) := by decide +kernel
theorem dX3_init_31 : decode cX3_init 31 = .ok (.aload_n 0, 1) := by decide +kernel
theorem dX3_init_32 : decode cX3_init 32 = .ok (.iconst 1, 1) := by decide +kernel
theorem dX3_init_33 : decode cX3_init 33 = .ok (.putfield 28, 3) := by decide +kernel
theorem dX3_init_36 : decode cX3_init 36 = .ok (.aload_n 0, 1) := by decide +kernel
theorem dX3_init_37 : decode cX3_init 37 = .ok (.iconst 1, 1) := by decide +kernel
theorem dX3_init_38 : decode cX3_init 38 = .ok (.putfield 31, 3) := by decide +kernel
theorem dX3_init_41 : decode cX3_init 41 = .ok (.return_, 1) := by decide +kernel
theorem dX3_find_0 : decode cX3_find 0 = .ok (.aload_n 0, 1) := by decide +kernel
theorem dX3_find_1 : decode cX3_find 1 = .ok (.iload_n 1, 1) := by decide +kernel
theorem dX3_find_2 : decode cX3_find 2 = .ok (.invokevirtual 34, 3) := by decide +kernel
theorem dX3_find_5 : decode cX3_find 5 = .ok (.astore_n 2, 1) := by decide +kernel
theorem dX3_find_6 : decode cX3_find 6 = .ok (.aload_n 2, 1) := by decide +kernel
theorem dX3_find_7 : decode cX3_find 7 = .ok (.ifnonnull 9, 3) := by decide +kernel
theorem dX3_find_10 : decode cX3_find 10 = .ok (.aload_n 0, 1) := by decide +kernel
theorem dX3_find_11 : decode cX3_find 11 = .ok (.iload_n 1, 1) := by decide +kernel
theorem dX3_find_12 : decode cX3_find 12 = .ok (.invokevirtual 38, 3) := by decide +kernel
theorem dX3_find_15 : decode cX3_find 15 = .ok (.astore_n 2, 1) := by decide +kernel
theorem dX3_find_16 : decode cX3_find 16 = .ok (.aload_n 2, 1) := by decide +kernel
theorem dX3_find_17 : decode cX3_find 17 = .ok (.ifnonnull 9, 3) := by decide +kernel
theorem dX3_find_20 : decode cX3_find 20 = .ok (.aload_n 0, 1) := by decide +kernel
theorem dX3_find_21 : decode cX3_find 21 = .ok (.iload_n 1, 1) := by decide +kernel
theorem dX3_find_22 : decode cX3_find 22 = .ok (.invokevirtual 41, 3) := by decide +kernel
theorem dX3_find_25 : decode cX3_find 25 = .ok (.ireturn, 1) := by decide +kernel
theorem dX3_find_26 : decode cX3_find 26 = .ok (.aload_n 2, 1) := by decide +kernel
theorem dX3_find_27 : decode cX3_find 27 = .ok (.getfield 45, 3) := by decide +kernel
theorem dX3_find_30 : decode cX3_find 30 = .ok (.iload_n 1, 1) := by decide +kernel
theorem dX3_find_31 : decode cX3_find 31 = .ok (.if_icmp .le 29, 3) := by decide +kernel
theorem dX3_find_34 : decode cX3_find 34 = .ok (.aload_n 0, 1) := by decide +kernel
theorem dX3_find_35 : decode cX3_find 35 = .ok (.dup, 1) := by decide +kernel
theorem dX3_find_36 : decode cX3_find 36 = .ok (.getfield 48, 3) := by decide +kernel
theorem dX3_find_39 : decode cX3_find 39 = .ok (.iconst 1, 1) := by decide +kernel
theorem dX3_find_40 : decode cX3_find 40 = .ok (.iadd, 1) := by decide +kernel
theorem dX3_find_41 : decode cX3_find 41 = .ok (.putfield 48, 3) := by decide +kernel
theorem dX3_find_44 : decode cX3_find 44 = .ok (.aload_n 0, 1) := by decide +kernel
theorem dX3_find_45 : decode cX3_find 45 = .ok (.aload_n 2, 1) := by decide +kernel
theorem dX3_find_46 : decode cX3_find 46 = .ok (.getfield 51, 3) := by decide +kernel
theorem dX3_find_49 : decode cX3_find 49 = .ok (.iload_n 1, 1) := by decide +kernel
theorem dX3_find_50 : decode cX3_find 50 = .ok (.iadd, 1) := by decide +kernel
theorem dX3_find_51 : decode cX3_find 51 = .ok (.aload_n 2, 1) := by decide +kernel
theorem dX3_find_52 : decode cX3_find 52 = .ok (.getfield 45, 3) := by decide +kernel
theorem dX3_find_55 : decode cX3_find 55 = .ok (.iload_n 1, 1) := by decide +kernel
theorem dX3_find_56 : decode cX3_find 56 = .ok (.isub, 1) := by decide +kernel
theorem dX3_find_57 : decode cX3_find 57 = .ok (.invokevirtual 54, 3) := by decide +kernel
theorem dX3_find_60 : decode cX3_find 60 = .ok (.aload_n 2, 1) := by decide +kernel
theorem dX3_find_61 : decode cX3_find 61 = .ok (.getfield 51, 3) := by decide +kernel
theorem dX3_find_64 : decode cX3_find 64 = .ok (.ireturn, 1) := by decide +kernel
theorem dX3_takeFromPiles_0 : decode cX3_takeFromPiles 0 = .ok (.iload_n 1, 1) := by decide +kernel
theorem dX3_takeFromPiles_1 : decode cX3_takeFromPiles 1 = .ok (.iconst 0, 1) := by decide +kernel
theorem dX3_takeFromPiles_2 : decode cX3_takeFromPiles 2 = .ok (.invokestatic 57, 3) := by decide +kernel
theorem dX3_takeFromPiles_5 : decode cX3_takeFromPiles 5 = .ok (.iconst 4, 1) := by decide +kernel
theorem dX3_takeFromPiles_6 : decode cX3_takeFromPiles 6 = .ok (.idiv, 1) := by decide +kernel
theorem dX3_takeFromPiles_7 : decode cX3_takeFromPiles 7 = .ok (.istore_n 2, 1) := by decide +kernel
theorem dX3_takeFromPiles_8 : decode cX3_takeFromPiles 8 = .ok (.iload_n 2, 1) := by decide +kernel
theorem dX3_takeFromPiles_9 : decode cX3_takeFromPiles 9 = .ok (.aload_n 0, 1) := by decide +kernel
theorem dX3_takeFromPiles_10 : decode cX3_takeFromPiles 10 = .ok (.getfield 17, 3) := by decide +kernel
theorem dX3_takeFromPiles_13 : decode cX3_takeFromPiles 13 = .ok (.arraylength, 1) := by decide +kernel
theorem dX3_takeFromPiles_14 : decode cX3_takeFromPiles 14 = .ok (.if_icmp .ge 55, 3) := by decide +kernel
theorem dX3_takeFromPiles_17 : decode cX3_takeFromPiles 17 = .ok (.aload_n 0, 1) := by decide +kernel
theorem dX3_takeFromPiles_18 : decode cX3_takeFromPiles 18 = .ok (.getfield 17, 3) := by decide +kernel
theorem dX3_takeFromPiles_21 : decode cX3_takeFromPiles 21 = .ok (.iload_n 2, 1) := by decide +kernel
theorem dX3_takeFromPiles_22 : decode cX3_takeFromPiles 22 = .ok (.aaload, 1) := by decide +kernel
theorem dX3_takeFromPiles_23 : decode cX3_takeFromPiles 23 = .ok (.astore_n 3, 1) := by decide +kernel
theorem dX3_takeFromPiles_24 : decode cX3_takeFromPiles 24 = .ok (.aload_n 3, 1) := by decide +kernel
theorem dX3_takeFromPiles_25 : decode cX3_takeFromPiles 25 = .ok (.ifnull 38, 3) := by decide +kernel
theorem dX3_takeFromPiles_28 : decode cX3_takeFromPiles 28 = .ok (.aload_n 0, 1) := by decide +kernel
theorem dX3_takeFromPiles_29 : decode cX3_takeFromPiles 29 = .ok (.getfield 17, 3) := by decide +kernel
theorem dX3_takeFromPiles_32 : decode cX3_takeFromPiles 32 = .ok (.iload_n 2, 1) := by decide +kernel
theorem dX3_takeFromPiles_33 : decode cX3_takeFromPiles 33 = .ok (.aload_n 3, 1) := by decide +kernel
theorem dX3_takeFromPiles_34 : decode cX3_takeFromPiles 34 = .ok (.getfield 63, 3) := by decide +kernel
theorem dX3_takeFromPiles_37 : decode cX3_takeFromPiles 37 = .ok (.aastore, 1) := by decide +kernel
theorem dX3_takeFromPiles_38 : decode cX3_takeFromPiles 38 = .ok (.aload_n 0, 1) := by decide +kernel
theorem dX3_takeFromPiles_39 : decode cX3_takeFromPiles 39 = .ok (.dup, 1) := by decide +kernel
theorem dX3_takeFromPiles_40 : decode cX3_takeFromPiles 40 = .ok (.getfield 66, 3) := by decide +kernel
theorem dX3_takeFromPiles_43 : decode cX3_takeFromPiles 43 = .ok (.iconst 1, 1) := by decide +kernel
theorem dX3_takeFromPiles_44 : decode cX3_takeFromPiles 44 = .ok (.isub, 1) := by decide +kernel
theorem dX3_takeFromPiles_45 : decode cX3_takeFromPiles 45 = .ok (.putfield 66, 3) := by decide +kernel
theorem dX3_takeFromPiles_48 : decode cX3_takeFromPiles 48 = .ok (.aload_n 0, 1) := by decide +kernel
theorem dX3_takeFromPiles_49 : decode cX3_takeFromPiles 49 = .ok (.dup, 1) := by decide +kernel
theorem dX3_takeFromPiles_50 : decode cX3_takeFromPiles 50 = .ok (.getfield 69, 3) := by decide +kernel
theorem dX3_takeFromPiles_53 : decode cX3_takeFromPiles 53 = .ok (.aload_n 3, 1) := by decide +kernel
theorem dX3_takeFromPiles_54 : decode cX3_takeFromPiles 54 = .ok (.getfield 45, 3) := by decide +kernel
theorem dX3_takeFromPiles_57 : decode cX3_takeFromPiles 57 = .ok (.isub, 1) := by decide +kernel
theorem dX3_takeFromPiles_58 : decode cX3_takeFromPiles 58 = .ok (.putfield 69, 3) := by decide +kernel
theorem dX3_takeFromPiles_61 : decode cX3_takeFromPiles 61 = .ok (.aload_n 3, 1) := by decide +kernel
theorem dX3_takeFromPiles_62 : decode cX3_takeFromPiles 62 = .ok (.areturn, 1) := by decide +kernel
theorem dX3_takeFromPiles_63 : decode cX3_takeFromPiles 63 = .ok (.iinc 2 1, 3) := by decide +kernel
theorem dX3_takeFromPiles_66 : decode cX3_takeFromPiles 66 = .ok (.goto (-58), 3) := by decide +kernel
theorem dX3_takeFromPiles_69 : decode cX3_takeFromPiles 69 = .ok (.aconst_null, 1) := by decide +kernel
theorem dX3_takeFromPiles_70 : decode cX3_takeFromPiles 70 = .ok (.areturn, 1) := by decide +kernel
theorem dX3_takeGreat_0 : decode cX3_takeGreat 0 = .ok (.aconst_null, 1) := by decide +kernel
theorem dX3_takeGreat_1 : decode cX3_takeGreat 1 = .ok (.astore_n 2, 1) := by decide +kernel
theorem dX3_takeGreat_2 : decode cX3_takeGreat 2 = .ok (.aload_n 0, 1) := by decide +kernel
theorem dX3_takeGreat_3 : decode cX3_takeGreat 3 = .ok (.getfield 24, 3) := by decide +kernel
theorem dX3_takeGreat_6 : decode cX3_takeGreat 6 = .ok (.getfield 63, 3) := by decide +kernel
theorem dX3_takeGreat_9 : decode cX3_takeGreat 9 = .ok (.astore_n 3, 1) := by decide +kernel
theorem dX3_takeGreat_10 : decode cX3_takeGreat 10 = .ok (.aload_n 3, 1) := by decide +kernel
theorem dX3_takeGreat_11 : decode cX3_takeGreat 11 = .ok (.ifnull 36, 3) := by decide +kernel
theorem dX3_takeGreat_14 : decode cX3_takeGreat 14 = .ok (.aload_n 3, 1) := by decide +kernel
theorem dX3_takeGreat_15 : decode cX3_takeGreat 15 = .ok (.getfield 45, 3) := by decide +kernel
theorem dX3_takeGreat_18 : decode cX3_takeGreat 18 = .ok (.iload_n 1, 1) := by decide +kernel
theorem dX3_takeGreat_19 : decode cX3_takeGreat 19 = .ok (.if_icmp .lt 20, 3) := by decide +kernel
theorem dX3_takeGreat_22 : decode cX3_takeGreat 22 = .ok (.aload_n 2, 1) := by decide +kernel
theorem dX3_takeGreat_23 : decode cX3_takeGreat 23 = .ok (.ifnull 14, 3) := by decide +kernel
theorem dX3_takeGreat_26 : decode cX3_takeGreat 26 = .ok (.aload_n 3, 1) := by decide +kernel
theorem dX3_takeGreat_27 : decode cX3_takeGreat 27 = .ok (.getfield 45, 3) := by decide +kernel
theorem dX3_takeGreat_30 : decode cX3_takeGreat 30 = .ok (.aload_n 2, 1) := by decide +kernel
theorem dX3_takeGreat_31 : decode cX3_takeGreat 31 = .ok (.getfield 45, 3) := by decide +kernel
theorem dX3_takeGreat_34 : decode cX3_takeGreat 34 = .ok (.if_icmp .ge 5, 3) := by decide +kernel
theorem dX3_takeGreat_37 : decode cX3_takeGreat 37 = .ok (.aload_n 3, 1) := by decide +kernel
theorem dX3_takeGreat_38 : decode cX3_takeGreat 38 = .ok (.astore_n 2, 1) := by decide +kernel
theorem dX3_takeGreat_39 : decode cX3_takeGreat 39 = .ok (.aload_n 3, 1) := by decide +kernel
theorem dX3_takeGreat_40 : decode cX3_takeGreat 40 = .ok (.getfield 63, 3) := by decide +kernel
theorem dX3_takeGreat_43 : decode cX3_takeGreat 43 = .ok (.astore_n 3, 1) := by decide +kernel
theorem dX3_takeGreat_44 : decode cX3_takeGreat 44 = .ok (.goto (-34), 3) := by decide +kernel
theorem dX3_takeGreat_47 : decode cX3_takeGreat 47 = .ok (.aload_n 2, 1) := by decide +kernel
theorem dX3_takeGreat_48 : decode cX3_takeGreat 48 = .ok (.ifnull 8, 3) := by decide +kernel
theorem dX3_takeGreat_51 : decode cX3_takeGreat 51 = .ok (.aload_n 0, 1) := by decide +kernel
theorem dX3_takeGreat_52 : decode cX3_takeGreat 52 = .ok (.aload_n 2, 1) := by decide +kernel
theorem dX3_takeGreat_53 : decode cX3_takeGreat 53 = .ok (.invokevirtual 72, 3) := by decide +kernel
theorem dX3_takeGreat_56 : decode cX3_takeGreat 56 = .ok (.aload_n 2, 1) := by decide +kernel
theorem dX3_takeGreat_57 : decode cX3_takeGreat 57 = .ok (.areturn, 1) := by decide +kernel
theorem dX3_takeFromTop_0 : decode cX3_takeFromTop 0 = .ok (.iload_n 1, 1) := by decide +kernel
theorem dX3_takeFromTop_1 : decode cX3_takeFromTop 1 = .ok (.aload_n 0, 1) := by decide +kernel
theorem dX3_takeFromTop_2 : decode cX3_takeFromTop 2 = .ok (.getfield 9, 3) := by decide +kernel
theorem dX3_takeFromTop_5 : decode cX3_takeFromTop 5 = .ok (.aload_n 0, 1) := by decide +kernel
theorem dX3_takeFromTop_6 : decode cX3_takeFromTop 6 = .ok (.getfield 28, 3) := by decide +kernel
theorem dX3_takeFromTop_9 : decode cX3_takeFromTop 9 = .ok (.isub, 1) := by decide +kernel
theorem dX3_takeFromTop_10 : decode cX3_takeFromTop 10 = .ok (.if_icmp .le 5, 3) := by decide +kernel
theorem dX3_takeFromTop_13 : decode cX3_takeFromTop 13 = .ok (.iconst (-1), 1) := by decide +kernel
theorem dX3_takeFromTop_14 : decode cX3_takeFromTop 14 = .ok (.ireturn, 1) := by decide +kernel
theorem dX3_takeFromTop_15 : decode cX3_takeFromTop 15 = .ok (.aload_n 0, 1) := by decide +kernel
theorem dX3_takeFromTop_16 : decode cX3_takeFromTop 16 = .ok (.getfield 28, 3) := by decide +kernel
theorem dX3_takeFromTop_19 : decode cX3_takeFromTop 19 = .ok (.istore_n 2, 1) := by decide +kernel
theorem dX3_takeFromTop_20 : decode cX3_takeFromTop 20 = .ok (.aload_n 0, 1) := by decide +kernel
theorem dX3_takeFromTop_21 : decode cX3_takeFromTop 21 = .ok (.dup, 1) := by decide +kernel
theorem dX3_takeFromTop_22 : decode cX3_takeFromTop 22 = .ok (.getfield 28, 3) := by decide +kernel
theorem dX3_takeFromTop_25 : decode cX3_takeFromTop 25 = .ok (.iload_n 1, 1) := by decide +kernel
theorem dX3_takeFromTop_26 : decode cX3_takeFromTop 26 = .ok (.iadd, 1) := by decide +kernel
theorem dX3_takeFromTop_27 : decode cX3_takeFromTop 27 = .ok (.putfield 28, 3) := by decide +kernel
theorem dX3_takeFromTop_30 : decode cX3_takeFromTop 30 = .ok (.aload_n 0, 1) := by decide +kernel
theorem dX3_takeFromTop_31 : decode cX3_takeFromTop 31 = .ok (.aload_n 0, 1) := by decide +kernel
theorem dX3_takeFromTop_32 : decode cX3_takeFromTop 32 = .ok (.getfield 31, 3) := by decide +kernel
theorem dX3_takeFromTop_35 : decode cX3_takeFromTop 35 = .ok (.aload_n 0, 1) := by decide +kernel
theorem dX3_takeFromTop_36 : decode cX3_takeFromTop 36 = .ok (.getfield 28, 3) := by decide +kernel
theorem dX3_takeFromTop_39 : decode cX3_takeFromTop 39 = .ok (.invokestatic 57, 3) := by decide +kernel
theorem dX3_takeFromTop_42 : decode cX3_takeFromTop 42 = .ok (.putfield 31, 3) := by decide +kernel
theorem dX3_takeFromTop_45 : decode cX3_takeFromTop 45 = .ok (.iload_n 2, 1) := by decide +kernel
theorem dX3_takeFromTop_46 : decode cX3_takeFromTop 46 = .ok (.ireturn, 1) := by decide +kernel
theorem dX3_release_0 : decode cX3_release 0 = .ok (.iload_n 2, 1) := by decide +kernel
theorem dX3_release_1 : decode cX3_release 1 = .ok (.bipush 64, 2) := by decide +kernel
theorem dX3_release_3 : decode cX3_release 3 = .ok (.if_icmp .le 12, 3) := by decide +kernel
theorem dX3_release_6 : decode cX3_release 6 = .ok (.aload_n 0, 1) := by decide +kernel
theorem dX3_release_7 : decode cX3_release 7 = .ok (.iload_n 1, 1) := by decide +kernel
theorem dX3_release_8 : decode cX3_release 8 = .ok (.iload_n 2, 1) := by decide +kernel
theorem dX3_release_9 : decode cX3_release 9 = .ok (.invokevirtual 76, 3) := by decide +kernel
theorem dX3_release_12 : decode cX3_release 12 = .ok (.goto 16, 3) := by decide +kernel
theorem dX3_release_15 : decode cX3_release 15 = .ok (.aload_n 0, 1) := by decide +kernel
theorem dX3_release_16 : decode cX3_release 16 = .ok (.new 15, 3) := by decide +kernel
theorem dX3_release_19 : decode cX3_release 19 = .ok (.dup, 1) := by decide +kernel
theorem dX3_release_20 : decode cX3_release 20 = .ok (.iload_n 1, 1) := by decide +kernel
theorem dX3_release_21 : decode cX3_release 21 = .ok (.iload_n 2, 1) := by decide +kernel
theorem dX3_release_22 : decode cX3_release 22 = .ok (.invokespecial 21, 3) := by decide +kernel
theorem dX3_release_25 : decode cX3_release 25 = .ok (.invokevirtual 79, 3) := by decide +kernel
theorem dX3_release_28 : decode cX3_release 28 = .ok (.return_, 1) := by decide +kernel
theorem dX3_putOnPile_0 : decode cX3_putOnPile 0 = .ok (.aload_n 1, 1) := by decide +kernel
theorem dX3_putOnPile_1 : decode cX3_putOnPile 1 = .ok (.getfield 45, 3) := by decide +kernel
theorem dX3_putOnPile_4 : decode cX3_putOnPile 4 = .ok (.iconst 4, 1) := by decide +kernel
theorem dX3_putOnPile_5 : decode cX3_putOnPile 5 = .ok (.idiv, 1) := by decide +kernel
theorem dX3_putOnPile_6 : decode cX3_putOnPile 6 = .ok (.istore_n 2, 1) := by decide +kernel
theorem dX3_putOnPile_7 : decode cX3_putOnPile 7 = .ok (.iload_n 2, 1) := by decide +kernel
theorem dX3_putOnPile_8 : decode cX3_putOnPile 8 = .ok (.iconst 1, 1) := by decide +kernel
theorem dX3_putOnPile_9 : decode cX3_putOnPile 9 = .ok (.if_icmp .lt 12, 3) := by decide +kernel
theorem dX3_putOnPile_12 : decode cX3_putOnPile 12 = .ok (.iload_n 2, 1) := by decide +kernel
theorem dX3_putOnPile_13 : decode cX3_putOnPile 13 = .ok (.aload_n 0, 1) := by decide +kernel
theorem dX3_putOnPile_14 : decode cX3_putOnPile 14 = .ok (.getfield 17, 3) := by decide +kernel
theorem dX3_putOnPile_17 : decode cX3_putOnPile 17 = .ok (.arraylength, 1) := by decide +kernel
theorem dX3_putOnPile_18 : decode cX3_putOnPile 18 = .ok (.if_icmp .lt 4, 3) := by decide +kernel
theorem dX3_putOnPile_21 : decode cX3_putOnPile 21 = .ok (.return_, 1) := by decide +kernel
theorem dX3_putOnPile_22 : decode cX3_putOnPile 22 = .ok (.aload_n 1, 1) := by decide +kernel
theorem dX3_putOnPile_23 : decode cX3_putOnPile 23 = .ok (.aload_n 0, 1) := by decide +kernel
theorem dX3_putOnPile_24 : decode cX3_putOnPile 24 = .ok (.getfield 17, 3) := by decide +kernel
theorem dX3_putOnPile_27 : decode cX3_putOnPile 27 = .ok (.iload_n 2, 1) := by decide +kernel
theorem dX3_putOnPile_28 : decode cX3_putOnPile 28 = .ok (.aaload, 1) := by decide +kernel
theorem dX3_putOnPile_29 : decode cX3_putOnPile 29 = .ok (.putfield 63, 3) := by decide +kernel
theorem dX3_putOnPile_32 : decode cX3_putOnPile 32 = .ok (.aload_n 0, 1) := by decide +kernel
theorem dX3_putOnPile_33 : decode cX3_putOnPile 33 = .ok (.getfield 17, 3) := by decide +kernel
theorem dX3_putOnPile_36 : decode cX3_putOnPile 36 = .ok (.iload_n 2, 1) := by decide +kernel
theorem dX3_putOnPile_37 : decode cX3_putOnPile 37 = .ok (.aload_n 1, 1) := by decide +kernel
theorem dX3_putOnPile_38 : decode cX3_putOnPile 38 = .ok (.aastore, 1) := by decide +kernel
theorem dX3_putOnPile_39 : decode cX3_putOnPile 39 = .ok (.aload_n 0, 1) := by decide +kernel
theorem dX3_putOnPile_40 : decode cX3_putOnPile 40 = .ok (.dup, 1) := by decide +kernel
theorem dX3_putOnPile_41 : decode cX3_putOnPile 41 = .ok (.getfield 66, 3) := by decide +kernel
theorem dX3_putOnPile_44 : decode cX3_putOnPile 44 = .ok (.iconst 1, 1) := by decide +kernel
theorem dX3_putOnPile_45 : decode cX3_putOnPile 45 = .ok (.iadd, 1) := by decide +kernel
theorem dX3_putOnPile_46 : decode cX3_putOnPile 46 = .ok (.putfield 66, 3) := by decide +kernel
theorem dX3_putOnPile_49 : decode cX3_putOnPile 49 = .ok (.aload_n 0, 1) := by decide +kernel
theorem dX3_putOnPile_50 : decode cX3_putOnPile 50 = .ok (.dup, 1) := by decide +kernel
theorem dX3_putOnPile_51 : decode cX3_putOnPile 51 = .ok (.getfield 69, 3) := by decide +kernel
theorem dX3_putOnPile_54 : decode cX3_putOnPile 54 = .ok (.aload_n 1, 1) := by decide +kernel
theorem dX3_putOnPile_55 : decode cX3_putOnPile 55 = .ok (.getfield 45, 3) := by decide +kernel
theorem dX3_putOnPile_58 : decode cX3_putOnPile 58 = .ok (.iadd, 1) := by decide +kernel
theorem dX3_putOnPile_59 : decode cX3_putOnPile 59 = .ok (.putfield 69, 3) := by decide +kernel
theorem dX3_putOnPile_62 : decode cX3_putOnPile 62 = .ok (.return_, 1) := by decide +kernel
theorem dX3_releaseGreat_0 : decode cX3_releaseGreat 0 = .ok (.iload_n 1, 1) := by decide +kernel
theorem dX3_releaseGreat_1 : decode cX3_releaseGreat 1 = .ok (.istore_n 3, 1) := by decide +kernel
theorem dX3_releaseGreat_2 : decode cX3_releaseGreat 2 = .ok (.iload_n 1, 1) := by decide +kernel
theorem dX3_releaseGreat_3 : decode cX3_releaseGreat 3 = .ok (.iload_n 2, 1) := by decide +kernel
theorem dX3_releaseGreat_4 : decode cX3_releaseGreat 4 = .ok (.iadd, 1) := by decide +kernel
theorem dX3_releaseGreat_5 : decode cX3_releaseGreat 5 = .ok (.istore 4, 2) := by decide +kernel
theorem dX3_releaseGreat_7 : decode cX3_releaseGreat 7 = .ok (.aload_n 0, 1) := by decide +kernel
theorem dX3_releaseGreat_8 : decode cX3_releaseGreat 8 = .ok (.getfield 24, 3) := by decide +kernel
theorem dX3_releaseGreat_11 : decode cX3_releaseGreat 11 = .ok (.getfield 63, 3) := by decide +kernel
theorem dX3_releaseGreat_14 : decode cX3_releaseGreat 14 = .ok (.astore 5, 2) := by decide +kernel
theorem dX3_releaseGreat_16 : decode cX3_releaseGreat 16 = .ok (.aload 5, 2) := by decide +kernel
theorem dX3_releaseGreat_18 : decode cX3_releaseGreat 18 = .ok (.ifnull 71, 3) := by decide +kernel
theorem dX3_releaseGreat_21 : decode cX3_releaseGreat 21 = .ok (.aload 5, 2) := by decide +kernel
theorem dX3_releaseGreat_23 : decode cX3_releaseGreat 23 = .ok (.invokevirtual 82, 3) := by decide +kernel
theorem dX3_releaseGreat_26 : decode cX3_releaseGreat 26 = .ok (.iload_n 1, 1) := by decide +kernel
theorem dX3_releaseGreat_27 : decode cX3_releaseGreat 27 = .ok (.if_icmp .eq 14, 3) := by decide +kernel
theorem dX3_releaseGreat_30 : decode cX3_releaseGreat 30 = .ok (.aload 5, 2) := by decide +kernel
theorem dX3_releaseGreat_32 : decode cX3_releaseGreat 32 = .ok (.getfield 51, 3) := by decide +kernel
theorem dX3_releaseGreat_35 : decode cX3_releaseGreat 35 = .ok (.iload_n 1, 1) := by decide +kernel
theorem dX3_releaseGreat_36 : decode cX3_releaseGreat 36 = .ok (.iload_n 2, 1) := by decide +kernel
theorem dX3_releaseGreat_37 : decode cX3_releaseGreat 37 = .ok (.iadd, 1) := by decide +kernel
theorem dX3_releaseGreat_38 : decode cX3_releaseGreat 38 = .ok (.if_icmp .ne 41, 3) := by decide +kernel
theorem dX3_releaseGreat_41 : decode cX3_releaseGreat 41 = .ok (.iload_n 3, 1) := by decide +kernel
theorem dX3_releaseGreat_42 : decode cX3_releaseGreat 42 = .ok (.aload 5, 2) := by decide +kernel
theorem dX3_releaseGreat_44 : decode cX3_releaseGreat 44 = .ok (.getfield 51, 3) := by decide +kernel
theorem dX3_releaseGreat_47 : decode cX3_releaseGreat 47 = .ok (.invokestatic 85, 3) := by decide +kernel
theorem dX3_releaseGreat_50 : decode cX3_releaseGreat 50 = .ok (.istore_n 3, 1) := by decide +kernel
theorem dX3_releaseGreat_51 : decode cX3_releaseGreat 51 = .ok (.iload 4, 2) := by decide +kernel
theorem dX3_releaseGreat_53 : decode cX3_releaseGreat 53 = .ok (.aload 5, 2) := by decide +kernel
theorem dX3_releaseGreat_55 : decode cX3_releaseGreat 55 = .ok (.invokevirtual 82, 3) := by decide +kernel
theorem dX3_releaseGreat_58 : decode cX3_releaseGreat 58 = .ok (.invokestatic 57, 3) := by decide +kernel
theorem dX3_releaseGreat_61 : decode cX3_releaseGreat 61 = .ok (.istore 4, 2) := by decide +kernel
theorem dX3_releaseGreat_63 : decode cX3_releaseGreat 63 = .ok (.aload_n 0, 1) := by decide +kernel
theorem dX3_releaseGreat_64 : decode cX3_releaseGreat 64 = .ok (.dup, 1) := by decide +kernel
theorem dX3_releaseGreat_65 : decode cX3_releaseGreat 65 = .ok (.getfield 88, 3) := by decide +kernel
theorem dX3_releaseGreat_68 : decode cX3_releaseGreat 68 = .ok (.iconst 1, 1) := by decide +kernel
theorem dX3_releaseGreat_69 : decode cX3_releaseGreat 69 = .ok (.iadd, 1) := by decide +kernel
theorem dX3_releaseGreat_70 : decode cX3_releaseGreat 70 = .ok (.putfield 88, 3) := by decide +kernel
theorem dX3_releaseGreat_73 : decode cX3_releaseGreat 73 = .ok (.aload_n 0, 1) := by decide +kernel
theorem dX3_releaseGreat_74 : decode cX3_releaseGreat 74 = .ok (.aload 5, 2) := by decide +kernel
theorem dX3_releaseGreat_76 : decode cX3_releaseGreat 76 = .ok (.invokevirtual 72, 3) := by decide +kernel
theorem dX3_releaseGreat_79 : decode cX3_releaseGreat 79 = .ok (.aload 5, 2) := by decide +kernel
theorem dX3_releaseGreat_81 : decode cX3_releaseGreat 81 = .ok (.getfield 63, 3) := by decide +kernel
theorem dX3_releaseGreat_84 : decode cX3_releaseGreat 84 = .ok (.astore 5, 2) := by decide +kernel
theorem dX3_releaseGreat_86 : decode cX3_releaseGreat 86 = .ok (.goto (-70), 3) := by decide +kernel
theorem dX3_releaseGreat_89 : decode cX3_releaseGreat 89 = .ok (.iload 4, 2) := by decide +kernel
theorem dX3_releaseGreat_91 : decode cX3_releaseGreat 91 = .ok (.aload_n 0, 1) := by decide +kernel
theorem dX3_releaseGreat_92 : decode cX3_releaseGreat 92 = .ok (.getfield 28, 3) := by decide +kernel
theorem dX3_releaseGreat_95 : decode cX3_releaseGreat 95 = .ok (.if_icmp .ne 11, 3) := by decide +kernel
theorem dX3_releaseGreat_98 : decode cX3_releaseGreat 98 = .ok (.aload_n 0, 1) := by decide +kernel
theorem dX3_releaseGreat_99 : decode cX3_releaseGreat 99 = .ok (.iload_n 3, 1) := by decide +kernel
theorem dX3_releaseGreat_100 : decode cX3_releaseGreat 100 = .ok (.putfield 28, 3) := by decide +kernel
theorem dX3_releaseGreat_103 : decode cX3_releaseGreat 103 = .ok (.goto 19, 3) := by decide +kernel
theorem dX3_releaseGreat_106 : decode cX3_releaseGreat 106 = .ok (.aload_n 0, 1) := by decide +kernel
theorem dX3_releaseGreat_107 : decode cX3_releaseGreat 107 = .ok (.new 15, 3) := by decide +kernel
theorem dX3_releaseGreat_110 : decode cX3_releaseGreat 110 = .ok (.dup, 1) := by decide +kernel
theorem dX3_releaseGreat_111 : decode cX3_releaseGreat 111 = .ok (.iload_n 3, 1) := by decide +kernel
theorem dX3_releaseGreat_112 : decode cX3_releaseGreat 112 = .ok (.iload 4, 2) := by decide +kernel
theorem dX3_releaseGreat_114 : decode cX3_releaseGreat 114 = .ok (.iload_n 3, 1) := by decide +kernel
theorem dX3_releaseGreat_115 : decode cX3_releaseGreat 115 = .ok (.isub, 1) := by decide +kernel
theorem dX3_releaseGreat_116 : decode cX3_releaseGreat 116 = .ok (.invokespecial 21, 3) := by decide +kernel
theorem dX3_releaseGreat_119 : decode cX3_releaseGreat 119 = .ok (.invokevirtual 91, 3) := by decide +kernel
theorem dX3_releaseGreat_122 : decode cX3_releaseGreat 122 = .ok (.return_, 1) := by decide +kernel
theorem dX3_linkGreat_0 : decode cX3_linkGreat 0 = .ok (.aload_n 0, 1) := by decide +kernel
theorem dX3_linkGreat_1 : decode cX3_linkGreat 1 = .ok (.getfield 24, 3) := by decide +kernel
theorem dX3_linkGreat_4 : decode cX3_linkGreat 4 = .ok (.astore_n 2, 1) := by decide +kernel
theorem dX3_linkGreat_5 : decode cX3_linkGreat 5 = .ok (.aload_n 0, 1) := by decide +kernel
theorem dX3_linkGreat_6 : decode cX3_linkGreat 6 = .ok (.getfield 24, 3) := by decide +kernel
theorem dX3_linkGreat_9 : decode cX3_linkGreat 9 = .ok (.getfield 63, 3) := by decide +kernel
theorem dX3_linkGreat_12 : decode cX3_linkGreat 12 = .ok (.astore_n 3, 1) := by decide +kernel
theorem dX3_linkGreat_13 : decode cX3_linkGreat 13 = .ok (.aload_n 3, 1) := by decide +kernel
theorem dX3_linkGreat_14 : decode cX3_linkGreat 14 = .ok (.ifnull 24, 3) := by decide +kernel
theorem dX3_linkGreat_17 : decode cX3_linkGreat 17 = .ok (.aload_n 3, 1) := by decide +kernel
theorem dX3_linkGreat_18 : decode cX3_linkGreat 18 = .ok (.getfield 51, 3) := by decide +kernel
theorem dX3_linkGreat_21 : decode cX3_linkGreat 21 = .ok (.aload_n 1, 1) := by decide +kernel
theorem dX3_linkGreat_22 : decode cX3_linkGreat 22 = .ok (.getfield 51, 3) := by decide +kernel
theorem dX3_linkGreat_25 : decode cX3_linkGreat 25 = .ok (.if_icmp .ge 13, 3) := by decide +kernel
theorem dX3_linkGreat_28 : decode cX3_linkGreat 28 = .ok (.aload_n 3, 1) := by decide +kernel
theorem dX3_linkGreat_29 : decode cX3_linkGreat 29 = .ok (.astore_n 2, 1) := by decide +kernel
theorem dX3_linkGreat_30 : decode cX3_linkGreat 30 = .ok (.aload_n 3, 1) := by decide +kernel
theorem dX3_linkGreat_31 : decode cX3_linkGreat 31 = .ok (.getfield 63, 3) := by decide +kernel
theorem dX3_linkGreat_34 : decode cX3_linkGreat 34 = .ok (.astore_n 3, 1) := by decide +kernel
theorem dX3_linkGreat_35 : decode cX3_linkGreat 35 = .ok (.goto (-22), 3) := by decide +kernel
theorem dX3_linkGreat_38 : decode cX3_linkGreat 38 = .ok (.aload_n 1, 1) := by decide +kernel
theorem dX3_linkGreat_39 : decode cX3_linkGreat 39 = .ok (.aload_n 2, 1) := by decide +kernel
theorem dX3_linkGreat_40 : decode cX3_linkGreat 40 = .ok (.getfield 63, 3) := by decide +kernel
theorem dX3_linkGreat_43 : decode cX3_linkGreat 43 = .ok (.putfield 63, 3) := by decide +kernel
theorem dX3_linkGreat_46 : decode cX3_linkGreat 46 = .ok (.aload_n 2, 1) := by decide +kernel
theorem dX3_linkGreat_47 : decode cX3_linkGreat 47 = .ok (.aload_n 1, 1) := by decide +kernel
theorem dX3_linkGreat_48 : decode cX3_linkGreat 48 = .ok (.putfield 63, 3) := by decide +kernel
theorem dX3_linkGreat_51 : decode cX3_linkGreat 51 = .ok (.aload_n 0, 1) := by decide +kernel
theorem dX3_linkGreat_52 : decode cX3_linkGreat 52 = .ok (.dup, 1) := by decide +kernel
theorem dX3_linkGreat_53 : decode cX3_linkGreat 53 = .ok (.getfield 66, 3) := by decide +kernel
theorem dX3_linkGreat_56 : decode cX3_linkGreat 56 = .ok (.iconst 1, 1) := by decide +kernel
theorem dX3_linkGreat_57 : decode cX3_linkGreat 57 = .ok (.iadd, 1) := by decide +kernel
theorem dX3_linkGreat_58 : decode cX3_linkGreat 58 = .ok (.putfield 66, 3) := by decide +kernel
theorem dX3_linkGreat_61 : decode cX3_linkGreat 61 = .ok (.aload_n 0, 1) := by decide +kernel
theorem dX3_linkGreat_62 : decode cX3_linkGreat 62 = .ok (.dup, 1) := by decide +kernel
theorem dX3_linkGreat_63 : decode cX3_linkGreat 63 = .ok (.getfield 69, 3) := by decide +kernel
theorem dX3_linkGreat_66 : decode cX3_linkGreat 66 = .ok (.aload_n 1, 1) := by decide +kernel
theorem dX3_linkGreat_67 : decode cX3_linkGreat 67 = .ok (.getfield 45, 3) := by decide +kernel
theorem dX3_linkGreat_70 : decode cX3_linkGreat 70 = .ok (.iadd, 1) := by decide +kernel
theorem dX3_linkGreat_71 : decode cX3_linkGreat 71 = .ok (.putfield 69, 3) := by decide +kernel
theorem dX3_linkGreat_74 : decode cX3_linkGreat 74 = .ok (.return_, 1) := by decide +kernel
theorem dX3_unlinkGreat_0 : decode cX3_unlinkGreat 0 = .ok (.aload_n 0, 1) := by decide +kernel
theorem dX3_unlinkGreat_1 : decode cX3_unlinkGreat 1 = .ok (.getfield 24, 3) := by decide +kernel
theorem dX3_unlinkGreat_4 : decode cX3_unlinkGreat 4 = .ok (.astore_n 2, 1) := by decide +kernel
theorem dX3_unlinkGreat_5 : decode cX3_unlinkGreat 5 = .ok (.aload_n 2, 1) := by decide +kernel
theorem dX3_unlinkGreat_6 : decode cX3_unlinkGreat 6 = .ok (.ifnull 51, 3) := by decide +kernel
theorem dX3_unlinkGreat_9 : decode cX3_unlinkGreat 9 = .ok (.aload_n 2, 1) := by decide +kernel
theorem dX3_unlinkGreat_10 : decode cX3_unlinkGreat 10 = .ok (.getfield 63, 3) := by decide +kernel
theorem dX3_unlinkGreat_13 : decode cX3_unlinkGreat 13 = .ok (.aload_n 1, 1) := by decide +kernel
theorem dX3_unlinkGreat_14 : decode cX3_unlinkGreat 14 = .ok (.if_acmp .ne 35, 3) := by decide +kernel
theorem dX3_unlinkGreat_17 : decode cX3_unlinkGreat 17 = .ok (.aload_n 2, 1) := by decide +kernel
theorem dX3_unlinkGreat_18 : decode cX3_unlinkGreat 18 = .ok (.aload_n 1, 1) := by decide +kernel
theorem dX3_unlinkGreat_19 : decode cX3_unlinkGreat 19 = .ok (.getfield 63, 3) := by decide +kernel
theorem dX3_unlinkGreat_22 : decode cX3_unlinkGreat 22 = .ok (.putfield 63, 3) := by decide +kernel
theorem dX3_unlinkGreat_25 : decode cX3_unlinkGreat 25 = .ok (.aload_n 0, 1) := by decide +kernel
theorem dX3_unlinkGreat_26 : decode cX3_unlinkGreat 26 = .ok (.dup, 1) := by decide +kernel
theorem dX3_unlinkGreat_27 : decode cX3_unlinkGreat 27 = .ok (.getfield 66, 3) := by decide +kernel
theorem dX3_unlinkGreat_30 : decode cX3_unlinkGreat 30 = .ok (.iconst 1, 1) := by decide +kernel
theorem dX3_unlinkGreat_31 : decode cX3_unlinkGreat 31 = .ok (.isub, 1) := by decide +kernel
theorem dX3_unlinkGreat_32 : decode cX3_unlinkGreat 32 = .ok (.putfield 66, 3) := by decide +kernel
theorem dX3_unlinkGreat_35 : decode cX3_unlinkGreat 35 = .ok (.aload_n 0, 1) := by decide +kernel
theorem dX3_unlinkGreat_36 : decode cX3_unlinkGreat 36 = .ok (.dup, 1) := by decide +kernel
theorem dX3_unlinkGreat_37 : decode cX3_unlinkGreat 37 = .ok (.getfield 69, 3) := by decide +kernel
theorem dX3_unlinkGreat_40 : decode cX3_unlinkGreat 40 = .ok (.aload_n 1, 1) := by decide +kernel
theorem dX3_unlinkGreat_41 : decode cX3_unlinkGreat 41 = .ok (.getfield 45, 3) := by decide +kernel
theorem dX3_unlinkGreat_44 : decode cX3_unlinkGreat 44 = .ok (.isub, 1) := by decide +kernel
theorem dX3_unlinkGreat_45 : decode cX3_unlinkGreat 45 = .ok (.putfield 69, 3) := by decide +kernel
theorem dX3_unlinkGreat_48 : decode cX3_unlinkGreat 48 = .ok (.return_, 1) := by decide +kernel
theorem dX3_unlinkGreat_49 : decode cX3_unlinkGreat 49 = .ok (.aload_n 2, 1) := by decide +kernel
theorem dX3_unlinkGreat_50 : decode cX3_unlinkGreat 50 = .ok (.getfield 63, 3) := by decide +kernel
theorem dX3_unlinkGreat_53 : decode cX3_unlinkGreat 53 = .ok (.astore_n 2, 1) := by decide +kernel
theorem dX3_unlinkGreat_54 : decode cX3_unlinkGreat 54 = .ok (.goto (-49), 3) := by decide +kernel
theorem dX3_unlinkGreat_57 : decode cX3_unlinkGreat 57 = .ok (.return_, 1) := by decide +kernel
theorem dX3_chainOf_0 : decode cX3_chainOf 0 = .ok (.iload_n 1, 1) := by decide +kernel
theorem dX3_chainOf_1 : decode cX3_chainOf 1 = .ok (.bipush 64, 2) := by decide +kernel
theorem dX3_chainOf_3 : decode cX3_chainOf 3 = .ok (.if_icmp .le 11, 3) := by decide +kernel
theorem dX3_chainOf_6 : decode cX3_chainOf 6 = .ok (.aload_n 0, 1) := by decide +kernel
theorem dX3_chainOf_7 : decode cX3_chainOf 7 = .ok (.getfield 24, 3) := by decide +kernel
theorem dX3_chainOf_10 : decode cX3_chainOf 10 = .ok (.getfield 63, 3) := by decide +kernel
theorem dX3_chainOf_13 : decode cX3_chainOf 13 = .ok (.areturn, 1) := by decide +kernel
theorem dX3_chainOf_14 : decode cX3_chainOf 14 = .ok (.iload_n 1, 1) := by decide +kernel
theorem dX3_chainOf_15 : decode cX3_chainOf 15 = .ok (.iconst 4, 1) := by decide +kernel
theorem dX3_chainOf_16 : decode cX3_chainOf 16 = .ok (.if_icmp .ge 7, 3) := by decide +kernel
theorem dX3_chainOf_19 : decode cX3_chainOf 19 = .ok (.aconst_null, 1) := by decide +kernel
theorem dX3_chainOf_20 : decode cX3_chainOf 20 = .ok (.goto 11, 3) := by decide +kernel
theorem dX3_chainOf_23 : decode cX3_chainOf 23 = .ok (.aload_n 0, 1) := by decide +kernel
theorem dX3_chainOf_24 : decode cX3_chainOf 24 = .ok (.getfield 17, 3) := by decide +kernel
theorem dX3_chainOf_27 : decode cX3_chainOf 27 = .ok (.iload_n 1, 1) := by decide +kernel
theorem dX3_chainOf_28 : decode cX3_chainOf 28 = .ok (.iconst 4, 1) := by decide +kernel
theorem dX3_chainOf_29 : decode cX3_chainOf 29 = .ok (.idiv, 1) := by decide +kernel
theorem dX3_chainOf_30 : decode cX3_chainOf 30 = .ok (.aaload, 1) := by decide +kernel
theorem dX3_chainOf_31 : decode cX3_chainOf 31 = .ok (.areturn, 1) := by decide +kernel
theorem dX3_manyOfSize_0 : decode cX3_manyOfSize 0 = .ok (.iconst 0, 1) := by decide +kernel
theorem dX3_manyOfSize_1 : decode cX3_manyOfSize 1 = .ok (.istore_n 2, 1) := by decide +kernel
theorem dX3_manyOfSize_2 : decode cX3_manyOfSize 2 = .ok (.aload_n 0, 1) := by decide +kernel
theorem dX3_manyOfSize_3 : decode cX3_manyOfSize 3 = .ok (.iload_n 1, 1) := by decide +kernel
theorem dX3_manyOfSize_4 : decode cX3_manyOfSize 4 = .ok (.invokevirtual 94, 3) := by decide +kernel
theorem dX3_manyOfSize_7 : decode cX3_manyOfSize 7 = .ok (.astore_n 3, 1) := by decide +kernel
theorem dX3_manyOfSize_8 : decode cX3_manyOfSize 8 = .ok (.aload_n 3, 1) := by decide +kernel
theorem dX3_manyOfSize_9 : decode cX3_manyOfSize 9 = .ok (.ifnull 22, 3) := by decide +kernel
theorem dX3_manyOfSize_12 : decode cX3_manyOfSize 12 = .ok (.aload_n 3, 1) := by decide +kernel
theorem dX3_manyOfSize_13 : decode cX3_manyOfSize 13 = .ok (.getfield 45, 3) := by decide +kernel
theorem dX3_manyOfSize_16 : decode cX3_manyOfSize 16 = .ok (.iload_n 1, 1) := by decide +kernel
theorem dX3_manyOfSize_17 : decode cX3_manyOfSize 17 = .ok (.if_icmp .ne 6, 3) := by decide +kernel
theorem dX3_manyOfSize_20 : decode cX3_manyOfSize 20 = .ok (.iinc 2 1, 3) := by decide +kernel
theorem dX3_manyOfSize_23 : decode cX3_manyOfSize 23 = .ok (.aload_n 3, 1) := by decide +kernel
theorem dX3_manyOfSize_24 : decode cX3_manyOfSize 24 = .ok (.getfield 63, 3) := by decide +kernel
theorem dX3_manyOfSize_27 : decode cX3_manyOfSize 27 = .ok (.astore_n 3, 1) := by decide +kernel
theorem dX3_manyOfSize_28 : decode cX3_manyOfSize 28 = .ok (.goto (-20), 3) := by decide +kernel
theorem dX3_manyOfSize_31 : decode cX3_manyOfSize 31 = .ok (.iload_n 2, 1) := by decide +kernel
theorem dX3_manyOfSize_32 : decode cX3_manyOfSize 32 = .ok (.ireturn, 1) := by decide +kernel
theorem dX3_addressOfSize_0 : decode cX3_addressOfSize 0 = .ok (.iconst 0, 1) := by decide +kernel
theorem dX3_addressOfSize_1 : decode cX3_addressOfSize 1 = .ok (.istore_n 3, 1) := by decide +kernel
theorem dX3_addressOfSize_2 : decode cX3_addressOfSize 2 = .ok (.aload_n 0, 1) := by decide +kernel
theorem dX3_addressOfSize_3 : decode cX3_addressOfSize 3 = .ok (.iload_n 1, 1) := by decide +kernel
theorem dX3_addressOfSize_4 : decode cX3_addressOfSize 4 = .ok (.invokevirtual 94, 3) := by decide +kernel
theorem dX3_addressOfSize_7 : decode cX3_addressOfSize 7 = .ok (.astore 4, 2) := by decide +kernel
theorem dX3_addressOfSize_9 : decode cX3_addressOfSize 9 = .ok (.aload 4, 2) := by decide +kernel
theorem dX3_addressOfSize_11 : decode cX3_addressOfSize 11 = .ok (.ifnull 36, 3) := by decide +kernel
theorem dX3_addressOfSize_14 : decode cX3_addressOfSize 14 = .ok (.aload 4, 2) := by decide +kernel
theorem dX3_addressOfSize_16 : decode cX3_addressOfSize 16 = .ok (.getfield 45, 3) := by decide +kernel
theorem dX3_addressOfSize_19 : decode cX3_addressOfSize 19 = .ok (.iload_n 1, 1) := by decide +kernel
theorem dX3_addressOfSize_20 : decode cX3_addressOfSize 20 = .ok (.if_icmp .ne 17, 3) := by decide +kernel
theorem dX3_addressOfSize_23 : decode cX3_addressOfSize 23 = .ok (.iload_n 3, 1) := by decide +kernel
theorem dX3_addressOfSize_24 : decode cX3_addressOfSize 24 = .ok (.iload_n 2, 1) := by decide +kernel
theorem dX3_addressOfSize_25 : decode cX3_addressOfSize 25 = .ok (.if_icmp .ne 9, 3) := by decide +kernel
theorem dX3_addressOfSize_28 : decode cX3_addressOfSize 28 = .ok (.aload 4, 2) := by decide +kernel
theorem dX3_addressOfSize_30 : decode cX3_addressOfSize 30 = .ok (.getfield 51, 3) := by decide +kernel
theorem dX3_addressOfSize_33 : decode cX3_addressOfSize 33 = .ok (.ireturn, 1) := by decide +kernel
theorem dX3_addressOfSize_34 : decode cX3_addressOfSize 34 = .ok (.iinc 3 1, 3) := by decide +kernel
theorem dX3_addressOfSize_37 : decode cX3_addressOfSize 37 = .ok (.aload 4, 2) := by decide +kernel
theorem dX3_addressOfSize_39 : decode cX3_addressOfSize 39 = .ok (.getfield 63, 3) := by decide +kernel
theorem dX3_addressOfSize_42 : decode cX3_addressOfSize 42 = .ok (.astore 4, 2) := by decide +kernel
theorem dX3_addressOfSize_44 : decode cX3_addressOfSize 44 = .ok (.goto (-35), 3) := by decide +kernel
theorem dX3_addressOfSize_47 : decode cX3_addressOfSize 47 = .ok (.iconst (-1), 1) := by decide +kernel
theorem dX3_addressOfSize_48 : decode cX3_addressOfSize 48 = .ok (.ireturn, 1) := by decide +kernel
theorem dX5_init_0 : decode cX5_init 0 = .ok (.aload_n 0, 1) := by decide +kernel
theorem dX5_init_1 : decode cX5_init 1 = .ok (.invokespecial 1, 3) := by decide +kernel
theorem dX5_init_4 : decode cX5_init 4 = .ok (.aload_n 0, 1) := by decide +kernel
theorem dX5_init_5 : decode cX5_init 5 = .ok (.aload_n 1, 1) := by decide +kernel
theorem dX5_init_6 : decode cX5_init 6 = .ok (.putfield 7, 3) := by decide +kernel
theorem dX5_init_9 : decode cX5_init 9 = .ok (.aload_n 0, 1) := by decide +kernel
theorem dX5_init_10 : decode cX5_init 10 = .ok (.aload_n 2, 1) := by decide +kernel
theorem dX5_init_11 : decode cX5_init 11 = .ok (.putfield 13, 3) := by decide +kernel
theorem dX5_init_14 : decode cX5_init 14 = .ok (.aload_n 0, 1) := by decide +kernel
theorem dX5_init_15 : decode cX5_init 15 = .ok (.aload_n 3, 1) := by decide +kernel
theorem dX5_init_16 : decode cX5_init 16 = .ok (.putfield 17, 3) := by decide +kernel
theorem dX5_init_19 : decode cX5_init 19 = .ok (.aload_n 0, 1) := by decide +kernel
theorem dX5_init_20 : decode cX5_init 20 = .ok (.aload_n 1, 1) := by decide +kernel
theorem dX5_init_21 : decode cX5_init 21 = .ok (.getfield 21, 3) := by decide +kernel
theorem dX5_init_24 : decode cX5_init 24 = .ok (.arraylength, 1) := by decide +kernel
theorem dX5_init_25 : decode cX5_init 25 = .ok (.anewarray 27, 3) := by decide +kernel
theorem dX5_init_28 : decode cX5_init 28 = .ok (.putfield 29, 3) := by decide +kernel
theorem dX5_init_31 : decode cX5_init 31 = .ok (.aload_n 0, 1) := by decide +kernel
theorem dX5_init_32 : decode cX5_init 32 = .ok (.aload_n 1, 1) := by decide +kernel
theorem dX5_init_33 : decode cX5_init 33 = .ok (.getfield 21, 3) := by decide +kernel
theorem dX5_init_36 : decode cX5_init 36 = .ok (.arraylength, 1) := by decide +kernel
theorem dX5_init_37 : decode cX5_init 37 = .ok (.anewarray 27, 3) := by decide +kernel
theorem dX5_init_40 : decode cX5_init 40 = .ok (.putfield 32, 3) := by decide +kernel
theorem dX5_init_43 : decode cX5_init 43 = .ok (.return_, 1) := by decide +kernel
theorem dX5_run_0 : decode cX5_run 0 = .ok (.aload_n 0, 1) := by decide +kernel
theorem dX5_run_1 : decode cX5_run 1 = .ok (.invokevirtual 35, 3) := by decide +kernel
theorem dX5_run_4 : decode cX5_run 4 = .ok (.aload_n 0, 1) := by decide +kernel
theorem dX5_run_5 : decode cX5_run 5 = .ok (.invokevirtual 38, 3) := by decide +kernel
theorem dX5_run_8 : decode cX5_run 8 = .ok (.iconst 0, 1) := by decide +kernel
theorem dX5_run_9 : decode cX5_run 9 = .ok (.istore_n 1, 1) := by decide +kernel
theorem dX5_run_10 : decode cX5_run 10 = .ok (.iload_n 1, 1) := by decide +kernel
theorem dX5_run_11 : decode cX5_run 11 = .ok (.aload_n 0, 1) := by decide +kernel
theorem dX5_run_12 : decode cX5_run 12 = .ok (.getfield 29, 3) := by decide +kernel
theorem dX5_run_15 : decode cX5_run 15 = .ok (.arraylength, 1) := by decide +kernel
theorem dX5_run_16 : decode cX5_run 16 = .ok (.if_icmp .ge 27, 3) := by decide +kernel
theorem dX5_run_19 : decode cX5_run 19 = .ok (.iload_n 1, 1) := by decide +kernel
theorem dX5_run_20 : decode cX5_run 20 = .ok (.aload_n 0, 1) := by decide +kernel
theorem dX5_run_21 : decode cX5_run 21 = .ok (.getfield 41, 3) := by decide +kernel
theorem dX5_run_24 : decode cX5_run 24 = .ok (.if_icmp .ge 19, 3) := by decide +kernel
theorem dX5_run_27 : decode cX5_run 27 = .ok (.aload_n 0, 1) := by decide +kernel
theorem dX5_run_28 : decode cX5_run 28 = .ok (.aload_n 0, 1) := by decide +kernel
theorem dX5_run_29 : decode cX5_run 29 = .ok (.getfield 29, 3) := by decide +kernel
theorem dX5_run_32 : decode cX5_run 32 = .ok (.iload_n 1, 1) := by decide +kernel
theorem dX5_run_33 : decode cX5_run 33 = .ok (.aaload, 1) := by decide +kernel
theorem dX5_run_34 : decode cX5_run 34 = .ok (.invokevirtual 45, 3) := by decide +kernel
theorem dX5_run_37 : decode cX5_run 37 = .ok (.iinc 1 1, 3) := by decide +kernel
theorem dX5_run_40 : decode cX5_run 40 = .ok (.goto (-30), 3) := by decide +kernel
theorem dX5_run_43 : decode cX5_run 43 = .ok (.aload_n 0, 1) := by decide +kernel
theorem dX5_run_44 : decode cX5_run 44 = .ok (.invokevirtual 49, 3) := by decide +kernel
theorem dX5_run_47 : decode cX5_run 47 = .ok (.iconst 0, 1) := by decide +kernel
theorem dX5_run_48 : decode cX5_run 48 = .ok (.istore_n 1, 1) := by decide +kernel
theorem dX5_run_49 : decode cX5_run 49 = .ok (.iload_n 1, 1) := by decide +kernel
theorem dX5_run_50 : decode cX5_run 50 = .ok (.aload_n 0, 1) := by decide +kernel
theorem dX5_run_51 : decode cX5_run 51 = .ok (.getfield 32, 3) := by decide +kernel
theorem dX5_run_54 : decode cX5_run 54 = .ok (.arraylength, 1) := by decide +kernel
theorem dX5_run_55 : decode cX5_run 55 = .ok (.if_icmp .ge 27, 3) := by decide +kernel
theorem dX5_run_58 : decode cX5_run 58 = .ok (.iload_n 1, 1) := by decide +kernel
theorem dX5_run_59 : decode cX5_run 59 = .ok (.aload_n 0, 1) := by decide +kernel
theorem dX5_run_60 : decode cX5_run 60 = .ok (.getfield 52, 3) := by decide +kernel
theorem dX5_run_63 : decode cX5_run 63 = .ok (.if_icmp .ge 19, 3) := by decide +kernel
theorem dX5_run_66 : decode cX5_run 66 = .ok (.aload_n 0, 1) := by decide +kernel
theorem dX5_run_67 : decode cX5_run 67 = .ok (.aload_n 0, 1) := by decide +kernel
theorem dX5_run_68 : decode cX5_run 68 = .ok (.getfield 32, 3) := by decide +kernel
theorem dX5_run_71 : decode cX5_run 71 = .ok (.iload_n 1, 1) := by decide +kernel
theorem dX5_run_72 : decode cX5_run 72 = .ok (.aaload, 1) := by decide +kernel
theorem dX5_run_73 : decode cX5_run 73 = .ok (.invokevirtual 55, 3) := by decide +kernel
theorem dX5_run_76 : decode cX5_run 76 = .ok (.iinc 1 1, 3) := by decide +kernel
theorem dX5_run_79 : decode cX5_run 79 = .ok (.goto (-30), 3) := by decide +kernel
theorem dX5_run_82 : decode cX5_run 82 = .ok (.aload_n 0, 1) := by decide +kernel
theorem dX5_run_83 : decode cX5_run 83 = .ok (.getfield 52, 3) := by decide +kernel
theorem dX5_run_86 : decode cX5_run 86 = .ok (.ireturn, 1) := by decide +kernel
theorem dX5_lostBlock_0 : decode cX5_lostBlock 0 = .ok (.iload_n 1, 1) := by decide +kernel
theorem dX5_lostBlock_1 : decode cX5_lostBlock 1 = .ok (.ifCond .lt 29, 3) := by decide +kernel
theorem dX5_lostBlock_4 : decode cX5_lostBlock 4 = .ok (.iload_n 1, 1) := by decide +kernel
theorem dX5_lostBlock_5 : decode cX5_lostBlock 5 = .ok (.aload_n 0, 1) := by decide +kernel
theorem dX5_lostBlock_6 : decode cX5_lostBlock 6 = .ok (.getfield 52, 3) := by decide +kernel
theorem dX5_lostBlock_9 : decode cX5_lostBlock 9 = .ok (.if_icmp .ge 21, 3) := by decide +kernel
theorem dX5_lostBlock_12 : decode cX5_lostBlock 12 = .ok (.iload_n 1, 1) := by decide +kernel
theorem dX5_lostBlock_13 : decode cX5_lostBlock 13 = .ok (.aload_n 0, 1) := by decide +kernel
theorem dX5_lostBlock_14 : decode cX5_lostBlock 14 = .ok (.getfield 32, 3) := by decide +kernel
theorem dX5_lostBlock_17 : decode cX5_lostBlock 17 = .ok (.arraylength, 1) := by decide +kernel
theorem dX5_lostBlock_18 : decode cX5_lostBlock 18 = .ok (.if_icmp .ge 12, 3) := by decide +kernel
theorem dX5_lostBlock_21 : decode cX5_lostBlock 21 = .ok (.aload_n 0, 1) := by decide +kernel
theorem dX5_lostBlock_22 : decode cX5_lostBlock 22 = .ok (.getfield 32, 3) := by decide +kernel
theorem dX5_lostBlock_25 : decode cX5_lostBlock 25 = .ok (.iload_n 1, 1) := by decide +kernel
theorem dX5_lostBlock_26 : decode cX5_lostBlock 26 = .ok (.aaload, 1) := by decide +kernel
theorem dX5_lostBlock_27 : decode cX5_lostBlock 27 = .ok (.goto 4, 3) := by decide +kernel
theorem dX5_lostBlock_30 : decode cX5_lostBlock 30 = .ok (.aconst_null, 1) := by decide +kernel
theorem dX5_lostBlock_31 : decode cX5_lostBlock 31 = .ok (.areturn, 1) := by decide +kernel
theorem dX5_leadingNumbers_0 : decode cX5_leadingNumbers 0 = .ok (.iconst 0, 1) := by decide +kernel
theorem dX5_leadingNumbers_1 : decode cX5_leadingNumbers 1 = .ok (.istore_n 1, 1) := by decide +kernel
theorem dX5_leadingNumbers_2 : decode cX5_leadingNumbers 2 = .ok (.iconst 0, 1) := by decide +kernel
theorem dX5_leadingNumbers_3 : decode cX5_leadingNumbers 3 = .ok (.istore_n 2, 1) := by decide +kernel
theorem dX5_leadingNumbers_4 : decode cX5_leadingNumbers 4 = .ok (.iload_n 2, 1) := by decide +kernel
theorem dX5_leadingNumbers_5 : decode cX5_leadingNumbers 5 = .ok (.aload_n 0, 1) := by decide +kernel
theorem dX5_leadingNumbers_6 : decode cX5_leadingNumbers 6 = .ok (.getfield 17, 3) := by decide +kernel
theorem dX5_leadingNumbers_9 : decode cX5_leadingNumbers 9 = .ok (.arraylength, 1) := by decide +kernel
theorem dX5_leadingNumbers_10 : decode cX5_leadingNumbers 10 = .ok (.if_icmp .ge 28, 3) := by decide +kernel
theorem dX5_leadingNumbers_13 : decode cX5_leadingNumbers 13 = .ok (.aload_n 0, 1) := by decide +kernel
theorem dX5_leadingNumbers_14 : decode cX5_leadingNumbers 14 = .ok (.getfield 7, 3) := by decide +kernel
theorem dX5_leadingNumbers_17 : decode cX5_leadingNumbers 17 = .ok (.aload_n 0, 1) := by decide +kernel
theorem dX5_leadingNumbers_18 : decode cX5_leadingNumbers 18 = .ok (.getfield 17, 3) := by decide +kernel
theorem dX5_leadingNumbers_21 : decode cX5_leadingNumbers 21 = .ok (.iload_n 2, 1) := by decide +kernel
theorem dX5_leadingNumbers_22 : decode cX5_leadingNumbers 22 = .ok (.iaload, 1) := by decide +kernel
theorem dX5_leadingNumbers_23 : decode cX5_leadingNumbers 23 = .ok (.invokevirtual 58, 3) := by decide +kernel
theorem dX5_leadingNumbers_26 : decode cX5_leadingNumbers 26 = .ok (.ifnull 6, 3) := by decide +kernel
theorem dX5_leadingNumbers_29 : decode cX5_leadingNumbers 29 = .ok (.iinc 1 1, 3) := by decide +kernel
theorem dX5_leadingNumbers_32 : decode cX5_leadingNumbers 32 = .ok (.iinc 2 1, 3) := by decide +kernel
theorem dX5_leadingNumbers_35 : decode cX5_leadingNumbers 35 = .ok (.goto (-31), 3) := by decide +kernel
theorem dX5_leadingNumbers_38 : decode cX5_leadingNumbers 38 = .ok (.iconst 0, 1) := by decide +kernel
theorem dX5_leadingNumbers_39 : decode cX5_leadingNumbers 39 = .ok (.istore_n 2, 1) := by decide +kernel
theorem dX5_leadingNumbers_40 : decode cX5_leadingNumbers 40 = .ok (.iload_n 2, 1) := by decide +kernel
theorem dX5_leadingNumbers_41 : decode cX5_leadingNumbers 41 = .ok (.aload_n 0, 1) := by decide +kernel
theorem dX5_leadingNumbers_42 : decode cX5_leadingNumbers 42 = .ok (.getfield 7, 3) := by decide +kernel
theorem dX5_leadingNumbers_45 : decode cX5_leadingNumbers 45 = .ok (.getfield 21, 3) := by decide +kernel
theorem dX5_leadingNumbers_48 : decode cX5_leadingNumbers 48 = .ok (.arraylength, 1) := by decide +kernel
theorem dX5_leadingNumbers_49 : decode cX5_leadingNumbers 49 = .ok (.if_icmp .ge 24, 3) := by decide +kernel
theorem dX5_leadingNumbers_52 : decode cX5_leadingNumbers 52 = .ok (.iload_n 1, 1) := by decide +kernel
theorem dX5_leadingNumbers_53 : decode cX5_leadingNumbers 53 = .ok (.aload_n 0, 1) := by decide +kernel
theorem dX5_leadingNumbers_54 : decode cX5_leadingNumbers 54 = .ok (.aload_n 0, 1) := by decide +kernel
theorem dX5_leadingNumbers_55 : decode cX5_leadingNumbers 55 = .ok (.getfield 7, 3) := by decide +kernel
theorem dX5_leadingNumbers_58 : decode cX5_leadingNumbers 58 = .ok (.iload_n 2, 1) := by decide +kernel
theorem dX5_leadingNumbers_59 : decode cX5_leadingNumbers 59 = .ok (.invokevirtual 62, 3) := by decide +kernel
theorem dX5_leadingNumbers_62 : decode cX5_leadingNumbers 62 = .ok (.invokevirtual 65, 3) := by decide +kernel
theorem dX5_leadingNumbers_65 : decode cX5_leadingNumbers 65 = .ok (.iadd, 1) := by decide +kernel
theorem dX5_leadingNumbers_66 : decode cX5_leadingNumbers 66 = .ok (.istore_n 1, 1) := by decide +kernel
theorem dX5_leadingNumbers_67 : decode cX5_leadingNumbers 67 = .ok (.iinc 2 1, 3) := by decide +kernel
theorem dX5_leadingNumbers_70 : decode cX5_leadingNumbers 70 = .ok (.goto (-30), 3) := by decide +kernel
theorem dX5_leadingNumbers_73 : decode cX5_leadingNumbers 73 = .ok (.iload_n 1, 1) := by decide +kernel
theorem dX5_leadingNumbers_74 : decode cX5_leadingNumbers 74 = .ok (.ireturn, 1) := by decide +kernel
theorem dX5_leadingWords_0 : decode cX5_leadingWords 0 = .ok (.iconst 0, 1) := by decide +kernel
theorem dX5_leadingWords_1 : decode cX5_leadingWords 1 = .ok (.istore_n 2, 1) := by decide +kernel
theorem dX5_leadingWords_2 : decode cX5_leadingWords 2 = .ok (.aload_n 1, 1) := by decide +kernel
theorem dX5_leadingWords_3 : decode cX5_leadingWords 3 = .ok (.ifnonnull 7, 3) := by decide +kernel
theorem dX5_leadingWords_6 : decode cX5_leadingWords 6 = .ok (.iconst 0, 1) := by decide +kernel
theorem dX5_leadingWords_7 : decode cX5_leadingWords 7 = .ok (.goto 7, 3) := by decide +kernel
theorem dX5_leadingWords_10 : decode cX5_leadingWords 10 = .ok (.aload_n 1, 1) := by decide +kernel
theorem dX5_leadingWords_11 : decode cX5_leadingWords 11 = .ok (.getfield 69, 3) := by decide +kernel
theorem dX5_leadingWords_14 : decode cX5_leadingWords 14 = .ok (.istore_n 3, 1) := by decide +kernel
theorem dX5_leadingWords_15 : decode cX5_leadingWords 15 = .ok (.iconst 0, 1) := by decide +kernel
theorem dX5_leadingWords_16 : decode cX5_leadingWords 16 = .ok (.istore 4, 2) := by decide +kernel
theorem dX5_leadingWords_18 : decode cX5_leadingWords 18 = .ok (.iload 4, 2) := by decide +kernel
theorem dX5_leadingWords_20 : decode cX5_leadingWords 20 = .ok (.iload_n 3, 1) := by decide +kernel
theorem dX5_leadingWords_21 : decode cX5_leadingWords 21 = .ok (.if_icmp .ge 22, 3) := by decide +kernel
theorem dX5_leadingWords_24 : decode cX5_leadingWords 24 = .ok (.aload_n 0, 1) := by decide +kernel
theorem dX5_leadingWords_25 : decode cX5_leadingWords 25 = .ok (.aload_n 1, 1) := by decide +kernel
theorem dX5_leadingWords_26 : decode cX5_leadingWords 26 = .ok (.iload 4, 2) := by decide +kernel
theorem dX5_leadingWords_28 : decode cX5_leadingWords 28 = .ok (.invokevirtual 72, 3) := by decide +kernel
theorem dX5_leadingWords_31 : decode cX5_leadingWords 31 = .ok (.ifnull 6, 3) := by decide +kernel
theorem dX5_leadingWords_34 : decode cX5_leadingWords 34 = .ok (.iinc 2 1, 3) := by decide +kernel
theorem dX5_leadingWords_37 : decode cX5_leadingWords 37 = .ok (.iinc 4 1, 3) := by decide +kernel
theorem dX5_leadingWords_40 : decode cX5_leadingWords 40 = .ok (.goto (-22), 3) := by decide +kernel
theorem dX5_leadingWords_43 : decode cX5_leadingWords 43 = .ok (.iload_n 2, 1) := by decide +kernel
theorem dX5_leadingWords_44 : decode cX5_leadingWords 44 = .ok (.ireturn, 1) := by decide +kernel
theorem dX5_ledToByWord_0 : decode cX5_ledToByWord 0 = .ok (.aload_n 1, 1) := by decide +kernel
theorem dX5_ledToByWord_1 : decode cX5_ledToByWord 1 = .ok (.ifnonnull 7, 3) := by decide +kernel
theorem dX5_ledToByWord_4 : decode cX5_ledToByWord 4 = .ok (.aconst_null, 1) := by decide +kernel
theorem dX5_ledToByWord_5 : decode cX5_ledToByWord 5 = .ok (.goto 23, 3) := by decide +kernel
theorem dX5_ledToByWord_8 : decode cX5_ledToByWord 8 = .ok (.aload_n 0, 1) := by decide +kernel
theorem dX5_ledToByWord_9 : decode cX5_ledToByWord 9 = .ok (.getfield 7, 3) := by decide +kernel
theorem dX5_ledToByWord_12 : decode cX5_ledToByWord 12 = .ok (.aload_n 0, 1) := by decide +kernel
theorem dX5_ledToByWord_13 : decode cX5_ledToByWord 13 = .ok (.getfield 13, 3) := by decide +kernel
theorem dX5_ledToByWord_16 : decode cX5_ledToByWord 16 = .ok (.aload_n 1, 1) := by decide +kernel
theorem dX5_ledToByWord_17 : decode cX5_ledToByWord 17 = .ok (.getfield 76, 3) := by decide +kernel
theorem dX5_ledToByWord_20 : decode cX5_ledToByWord 20 = .ok (.iload_n 2, 1) := by decide +kernel
theorem dX5_ledToByWord_21 : decode cX5_ledToByWord 21 = .ok (.iadd, 1) := by decide +kernel
theorem dX5_ledToByWord_22 : decode cX5_ledToByWord 22 = .ok (.invokevirtual 79, 3) := by decide +kernel
theorem dX5_ledToByWord_25 : decode cX5_ledToByWord 25 = .ok (.invokevirtual 58, 3) := by decide +kernel
theorem dX5_ledToByWord_28 : decode cX5_ledToByWord 28 = .ok (.areturn, 1) := by decide +kernel
theorem dX5_forgetReached_0 : decode cX5_forgetReached 0 = .ok (.aload_n 0, 1) := by decide +kernel
theorem dX5_forgetReached_1 : decode cX5_forgetReached 1 = .ok (.iconst 0, 1) := by decide +kernel
theorem dX5_forgetReached_2 : decode cX5_forgetReached 2 = .ok (.putfield 41, 3) := by decide +kernel
theorem dX5_forgetReached_5 : decode cX5_forgetReached 5 = .ok (.iconst 0, 1) := by decide +kernel
theorem dX5_forgetReached_6 : decode cX5_forgetReached 6 = .ok (.istore_n 1, 1) := by decide +kernel
theorem dX5_forgetReached_7 : decode cX5_forgetReached 7 = .ok (.iload_n 1, 1) := by decide +kernel
theorem dX5_forgetReached_8 : decode cX5_forgetReached 8 = .ok (.aload_n 0, 1) := by decide +kernel
theorem dX5_forgetReached_9 : decode cX5_forgetReached 9 = .ok (.getfield 7, 3) := by decide +kernel
theorem dX5_forgetReached_12 : decode cX5_forgetReached 12 = .ok (.getfield 21, 3) := by decide +kernel
theorem dX5_forgetReached_15 : decode cX5_forgetReached 15 = .ok (.arraylength, 1) := by decide +kernel
theorem dX5_forgetReached_16 : decode cX5_forgetReached 16 = .ok (.if_icmp .ge 27, 3) := by decide +kernel
theorem dX5_forgetReached_19 : decode cX5_forgetReached 19 = .ok (.aload_n 0, 1) := by decide +kernel
theorem dX5_forgetReached_20 : decode cX5_forgetReached 20 = .ok (.getfield 7, 3) := by decide +kernel
theorem dX5_forgetReached_23 : decode cX5_forgetReached 23 = .ok (.iload_n 1, 1) := by decide +kernel
theorem dX5_forgetReached_24 : decode cX5_forgetReached 24 = .ok (.invokevirtual 62, 3) := by decide +kernel
theorem dX5_forgetReached_27 : decode cX5_forgetReached 27 = .ok (.astore_n 2, 1) := by decide +kernel
theorem dX5_forgetReached_28 : decode cX5_forgetReached 28 = .ok (.aload_n 2, 1) := by decide +kernel
theorem dX5_forgetReached_29 : decode cX5_forgetReached 29 = .ok (.ifnull 8, 3) := by decide +kernel
theorem dX5_forgetReached_32 : decode cX5_forgetReached 32 = .ok (.aload_n 2, 1) := by decide +kernel
theorem dX5_forgetReached_33 : decode cX5_forgetReached 33 = .ok (.iconst 0, 1) := by decide +kernel
theorem dX5_forgetReached_34 : decode cX5_forgetReached 34 = .ok (.putfield 85, 3) := by decide +kernel
theorem dX5_forgetReached_37 : decode cX5_forgetReached 37 = .ok (.iinc 1 1, 3) := by decide +kernel
theorem dX5_forgetReached_40 : decode cX5_forgetReached 40 = .ok (.goto (-33), 3) := by decide +kernel
theorem dX5_forgetReached_43 : decode cX5_forgetReached 43 = .ok (.return_, 1) := by decide +kernel
theorem dX5_reachFromRoots_0 : decode cX5_reachFromRoots 0 = .ok (.iconst 0, 1) := by decide +kernel
theorem dX5_reachFromRoots_1 : decode cX5_reachFromRoots 1 = .ok (.istore_n 1, 1) := by decide +kernel
theorem dX5_reachFromRoots_2 : decode cX5_reachFromRoots 2 = .ok (.iload_n 1, 1) := by decide +kernel
theorem dX5_reachFromRoots_3 : decode cX5_reachFromRoots 3 = .ok (.aload_n 0, 1) := by decide +kernel
theorem dX5_reachFromRoots_4 : decode cX5_reachFromRoots 4 = .ok (.getfield 17, 3) := by decide +kernel
theorem dX5_reachFromRoots_7 : decode cX5_reachFromRoots 7 = .ok (.arraylength, 1) := by decide +kernel
theorem dX5_reachFromRoots_8 : decode cX5_reachFromRoots 8 = .ok (.if_icmp .ge 26, 3) := by decide +kernel
theorem dX5_reachFromRoots_11 : decode cX5_reachFromRoots 11 = .ok (.aload_n 0, 1) := by decide +kernel
theorem dX5_reachFromRoots_12 : decode cX5_reachFromRoots 12 = .ok (.aload_n 0, 1) := by decide +kernel
theorem dX5_reachFromRoots_13 : decode cX5_reachFromRoots 13 = .ok (.getfield 7, 3) := by decide +kernel
theorem dX5_reachFromRoots_16 : decode cX5_reachFromRoots 16 = .ok (.aload_n 0, 1) := by decide +kernel
theorem dX5_reachFromRoots_17 : decode cX5_reachFromRoots 17 = .ok (.getfield 17, 3) := by decide +kernel
theorem dX5_reachFromRoots_20 : decode cX5_reachFromRoots 20 = .ok (.iload_n 1, 1) := by decide +kernel
theorem dX5_reachFromRoots_21 : decode cX5_reachFromRoots 21 = .ok (.iaload, 1) := by decide +kernel
theorem dX5_reachFromRoots_22 : decode cX5_reachFromRoots 22 = .ok (.invokevirtual 58, 3) := by decide +kernel
theorem dX5_reachFromRoots_25 : decode cX5_reachFromRoots 25 = .ok (.invokevirtual 88, 3) := by decide +kernel
theorem dX5_reachFromRoots_28 : decode cX5_reachFromRoots 28 = .ok (.iinc 1 1, 3) := by decide +kernel
theorem dX5_reachFromRoots_31 : decode cX5_reachFromRoots 31 = .ok (.goto (-29), 3) := by decide +kernel
theorem dX5_reachFromRoots_34 : decode cX5_reachFromRoots 34 = .ok (.return_, 1) := by decide +kernel
theorem dX5_reachFromBlock_0 : decode cX5_reachFromBlock 0 = .ok (.aload_n 1, 1) := by decide +kernel
theorem dX5_reachFromBlock_1 : decode cX5_reachFromBlock 1 = .ok (.ifnonnull 7, 3) := by decide +kernel
theorem dX5_reachFromBlock_4 : decode cX5_reachFromBlock 4 = .ok (.iconst 0, 1) := by decide +kernel
theorem dX5_reachFromBlock_5 : decode cX5_reachFromBlock 5 = .ok (.goto 7, 3) := by decide +kernel
theorem dX5_reachFromBlock_8 : decode cX5_reachFromBlock 8 = .ok (.aload_n 1, 1) := by decide +kernel
theorem dX5_reachFromBlock_9 : decode cX5_reachFromBlock 9 = .ok (.getfield 69, 3) := by decide +kernel
theorem dX5_reachFromBlock_12 : decode cX5_reachFromBlock 12 = .ok (.istore_n 2, 1) := by decide +kernel
theorem dX5_reachFromBlock_13 : decode cX5_reachFromBlock 13 = .ok (.iconst 0, 1) := by decide +kernel
theorem dX5_reachFromBlock_14 : decode cX5_reachFromBlock 14 = .ok (.istore_n 3, 1) := by decide +kernel
theorem dX5_reachFromBlock_15 : decode cX5_reachFromBlock 15 = .ok (.iload_n 3, 1) := by decide +kernel
theorem dX5_reachFromBlock_16 : decode cX5_reachFromBlock 16 = .ok (.iload_n 2, 1) := by decide +kernel
theorem dX5_reachFromBlock_17 : decode cX5_reachFromBlock 17 = .ok (.if_icmp .ge 19, 3) := by decide +kernel
theorem dX5_reachFromBlock_20 : decode cX5_reachFromBlock 20 = .ok (.aload_n 0, 1) := by decide +kernel
theorem dX5_reachFromBlock_21 : decode cX5_reachFromBlock 21 = .ok (.aload_n 0, 1) := by decide +kernel
theorem dX5_reachFromBlock_22 : decode cX5_reachFromBlock 22 = .ok (.aload_n 1, 1) := by decide +kernel
theorem dX5_reachFromBlock_23 : decode cX5_reachFromBlock 23 = .ok (.iload_n 3, 1) := by decide +kernel
theorem dX5_reachFromBlock_24 : decode cX5_reachFromBlock 24 = .ok (.invokevirtual 72, 3) := by decide +kernel
theorem dX5_reachFromBlock_27 : decode cX5_reachFromBlock 27 = .ok (.invokevirtual 88, 3) := by decide +kernel
theorem dX5_reachFromBlock_30 : decode cX5_reachFromBlock 30 = .ok (.iinc 3 1, 3) := by decide +kernel
theorem dX5_reachFromBlock_33 : decode cX5_reachFromBlock 33 = .ok (.goto (-18), 3) := by decide +kernel
theorem dX5_reachFromBlock_36 : decode cX5_reachFromBlock 36 = .ok (.return_, 1) := by decide +kernel
theorem dX5_reach_0 : decode cX5_reach 0 = .ok (.aload_n 1, 1) := by decide +kernel
theorem dX5_reach_1 : decode cX5_reach 1 = .ok (.ifnull 22, 3) := by decide +kernel
theorem dX5_reach_4 : decode cX5_reach 4 = .ok (.aload_n 1, 1) := by decide +kernel
theorem dX5_reach_5 : decode cX5_reach 5 = .ok (.getfield 85, 3) := by decide +kernel
theorem dX5_reach_8 : decode cX5_reach 8 = .ok (.ifCond .ne 15, 3) := by decide +kernel
theorem dX5_reach_11 : decode cX5_reach 11 = .ok (.aload_n 0, 1) := by decide +kernel
theorem dX5_reach_12 : decode cX5_reach 12 = .ok (.getfield 41, 3) := by decide +kernel
theorem dX5_reach_15 : decode cX5_reach 15 = .ok (.aload_n 0, 1) := by decide +kernel
theorem dX5_reach_16 : decode cX5_reach 16 = .ok (.getfield 29, 3) := by decide +kernel
theorem dX5_reach_19 : decode cX5_reach 19 = .ok (.arraylength, 1) := by decide +kernel
theorem dX5_reach_20 : decode cX5_reach 20 = .ok (.if_icmp .lt 4, 3) := by decide +kernel
theorem dX5_reach_23 : decode cX5_reach 23 = .ok (.return_, 1) := by decide +kernel
theorem dX5_reach_24 : decode cX5_reach 24 = .ok (.aload_n 1, 1) := by decide +kernel
theorem dX5_reach_25 : decode cX5_reach 25 = .ok (.iconst 1, 1) := by decide +kernel
theorem dX5_reach_26 : decode cX5_reach 26 = .ok (.putfield 85, 3) := by decide +kernel
theorem dX5_reach_29 : decode cX5_reach 29 = .ok (.aload_n 0, 1) := by decide +kernel
theorem dX5_reach_30 : decode cX5_reach 30 = .ok (.getfield 29, 3) := by decide +kernel
theorem dX5_reach_33 : decode cX5_reach 33 = .ok (.aload_n 0, 1) := by decide +kernel
theorem dX5_reach_34 : decode cX5_reach 34 = .ok (.getfield 41, 3) := by decide +kernel
theorem dX5_reach_37 : decode cX5_reach 37 = .ok (.aload_n 1, 1) := by decide +kernel
theorem dX5_reach_38 : decode cX5_reach 38 = .ok (.aastore, 1) := by decide +kernel
theorem dX5_reach_39 : decode cX5_reach 39 = .ok (.aload_n 0, 1) := by decide +kernel
theorem dX5_reach_40 : decode cX5_reach 40 = .ok (.dup, 1) := by decide +kernel
theorem dX5_reach_41 : decode cX5_reach 41 = .ok (.getfield 41, 3) := by decide +kernel
theorem dX5_reach_44 : decode cX5_reach 44 = .ok (.iconst 1, 1) := by decide +kernel
theorem dX5_reach_45 : decode cX5_reach 45 = .ok (.iadd, 1) := by decide +kernel
theorem dX5_reach_46 : decode cX5_reach 46 = .ok (.putfield 41, 3) := by decide +kernel
theorem dX5_reach_49 : decode cX5_reach 49 = .ok (.return_, 1) := by decide +kernel
theorem dX5_keepLost_0 : decode cX5_keepLost 0 = .ok (.aload_n 0, 1) := by decide +kernel
theorem dX5_keepLost_1 : decode cX5_keepLost 1 = .ok (.iconst 0, 1) := by decide +kernel
theorem dX5_keepLost_2 : decode cX5_keepLost 2 = .ok (.putfield 52, 3) := by decide +kernel
theorem dX5_keepLost_5 : decode cX5_keepLost 5 = .ok (.iconst 0, 1) := by decide +kernel
theorem dX5_keepLost_6 : decode cX5_keepLost 6 = .ok (.istore_n 1, 1) := by decide +kernel
theorem dX5_keepLost_7 : decode cX5_keepLost 7 = .ok (.iload_n 1, 1) := by decide +kernel
theorem dX5_keepLost_8 : decode cX5_keepLost 8 = .ok (.aload_n 0, 1) := by decide +kernel
theorem dX5_keepLost_9 : decode cX5_keepLost 9 = .ok (.getfield 7, 3) := by decide +kernel
theorem dX5_keepLost_12 : decode cX5_keepLost 12 = .ok (.getfield 21, 3) := by decide +kernel
theorem dX5_keepLost_15 : decode cX5_keepLost 15 = .ok (.arraylength, 1) := by decide +kernel
theorem dX5_keepLost_16 : decode cX5_keepLost 16 = .ok (.if_icmp .ge 66, 3) := by decide +kernel
theorem dX5_keepLost_19 : decode cX5_keepLost 19 = .ok (.aload_n 0, 1) := by decide +kernel
theorem dX5_keepLost_20 : decode cX5_keepLost 20 = .ok (.getfield 7, 3) := by decide +kernel
theorem dX5_keepLost_23 : decode cX5_keepLost 23 = .ok (.iload_n 1, 1) := by decide +kernel
theorem dX5_keepLost_24 : decode cX5_keepLost 24 = .ok (.invokevirtual 62, 3) := by decide +kernel
theorem dX5_keepLost_27 : decode cX5_keepLost 27 = .ok (.astore_n 2, 1) := by decide +kernel
theorem dX5_keepLost_28 : decode cX5_keepLost 28 = .ok (.aload_n 2, 1) := by decide +kernel
theorem dX5_keepLost_29 : decode cX5_keepLost 29 = .ok (.ifnull 47, 3) := by decide +kernel
theorem dX5_keepLost_32 : decode cX5_keepLost 32 = .ok (.aload_n 2, 1) := by decide +kernel
theorem dX5_keepLost_33 : decode cX5_keepLost 33 = .ok (.getfield 85, 3) := by decide +kernel
theorem dX5_keepLost_36 : decode cX5_keepLost 36 = .ok (.ifCond .ne 40, 3) := by decide +kernel
theorem dX5_keepLost_39 : decode cX5_keepLost 39 = .ok (.aload_n 0, 1) := by decide +kernel
theorem dX5_keepLost_40 : decode cX5_keepLost 40 = .ok (.getfield 52, 3) := by decide +kernel
theorem dX5_keepLost_43 : decode cX5_keepLost 43 = .ok (.aload_n 0, 1) := by decide +kernel
theorem dX5_keepLost_44 : decode cX5_keepLost 44 = .ok (.getfield 32, 3) := by decide +kernel
theorem dX5_keepLost_47 : decode cX5_keepLost 47 = .ok (.arraylength, 1) := by decide +kernel
theorem dX5_keepLost_48 : decode cX5_keepLost 48 = .ok (.if_icmp .ge 28, 3) := by decide +kernel
theorem dX5_keepLost_51 : decode cX5_keepLost 51 = .ok (.aload_n 2, 1) := by decide +kernel
theorem dX5_keepLost_52 : decode cX5_keepLost 52 = .ok (.iconst 1, 1) := by decide +kernel
theorem dX5_keepLost_53 : decode cX5_keepLost 53 = .ok (.putfield 91, 3) := by decide +kernel
theorem dX5_keepLost_56 : decode cX5_keepLost 56 = .ok (.aload_n 0, 1) := by decide +kernel
theorem dX5_keepLost_57 : decode cX5_keepLost 57 = .ok (.getfield 32, 3) := by decide +kernel
theorem dX5_keepLost_60 : decode cX5_keepLost 60 = .ok (.aload_n 0, 1) := by decide +kernel
theorem dX5_keepLost_61 : decode cX5_keepLost 61 = .ok (.getfield 52, 3) := by decide +kernel
theorem dX5_keepLost_64 : decode cX5_keepLost 64 = .ok (.aload_n 2, 1) := by decide +kernel
theorem dX5_keepLost_65 : decode cX5_keepLost 65 = .ok (.aastore, 1) := by decide +kernel
theorem dX5_keepLost_66 : decode cX5_keepLost 66 = .ok (.aload_n 0, 1) := by decide +kernel
theorem dX5_keepLost_67 : decode cX5_keepLost 67 = .ok (.dup, 1) := by decide +kernel
theorem dX5_keepLost_68 : decode cX5_keepLost 68 = .ok (.getfield 52, 3) := by decide +kernel
theorem dX5_keepLost_71 : decode cX5_keepLost 71 = .ok (.iconst 1, 1) := by decide +kernel
theorem dX5_keepLost_72 : decode cX5_keepLost 72 = .ok (.iadd, 1) := by decide +kernel
theorem dX5_keepLost_73 : decode cX5_keepLost 73 = .ok (.putfield 52, 3) := by decide +kernel
theorem dX5_keepLost_76 : decode cX5_keepLost 76 = .ok (.iinc 1 1, 3) := by decide +kernel
theorem dX5_keepLost_79 : decode cX5_keepLost 79 = .ok (.goto (-72), 3) := by decide +kernel
theorem dX5_keepLost_82 : decode cX5_keepLost 82 = .ok (.return_, 1) := by decide +kernel
theorem dX5_unmarkHeads_0 : decode cX5_unmarkHeads 0 = .ok (.aload_n 1, 1) := by decide +kernel
theorem dX5_unmarkHeads_1 : decode cX5_unmarkHeads 1 = .ok (.ifnonnull 7, 3) := by decide +kernel
theorem dX5_unmarkHeads_4 : decode cX5_unmarkHeads 4 = .ok (.iconst 0, 1) := by decide +kernel
theorem dX5_unmarkHeads_5 : decode cX5_unmarkHeads 5 = .ok (.goto 7, 3) := by decide +kernel
theorem dX5_unmarkHeads_8 : decode cX5_unmarkHeads 8 = .ok (.aload_n 1, 1) := by decide +kernel
theorem dX5_unmarkHeads_9 : decode cX5_unmarkHeads 9 = .ok (.getfield 69, 3) := by decide +kernel
theorem dX5_unmarkHeads_12 : decode cX5_unmarkHeads 12 = .ok (.istore_n 2, 1) := by decide +kernel
theorem dX5_unmarkHeads_13 : decode cX5_unmarkHeads 13 = .ok (.iconst 0, 1) := by decide +kernel
theorem dX5_unmarkHeads_14 : decode cX5_unmarkHeads 14 = .ok (.istore_n 3, 1) := by decide +kernel
theorem dX5_unmarkHeads_15 : decode cX5_unmarkHeads 15 = .ok (.iload_n 3, 1) := by decide +kernel
theorem dX5_unmarkHeads_16 : decode cX5_unmarkHeads 16 = .ok (.iload_n 2, 1) := by decide +kernel
theorem dX5_unmarkHeads_17 : decode cX5_unmarkHeads 17 = .ok (.if_icmp .ge 34, 3) := by decide +kernel
theorem dX5_unmarkHeads_20 : decode cX5_unmarkHeads 20 = .ok (.aload_n 0, 1) := by decide +kernel
theorem dX5_unmarkHeads_21 : decode cX5_unmarkHeads 21 = .ok (.aload_n 1, 1) := by decide +kernel
theorem dX5_unmarkHeads_22 : decode cX5_unmarkHeads 22 = .ok (.iload_n 3, 1) := by decide +kernel
theorem dX5_unmarkHeads_23 : decode cX5_unmarkHeads 23 = .ok (.invokevirtual 72, 3) := by decide +kernel
theorem dX5_unmarkHeads_26 : decode cX5_unmarkHeads 26 = .ok (.astore 4, 2) := by decide +kernel
theorem dX5_unmarkHeads_28 : decode cX5_unmarkHeads 28 = .ok (.aload 4, 2) := by decide +kernel
theorem dX5_unmarkHeads_30 : decode cX5_unmarkHeads 30 = .ok (.ifnull 15, 3) := by decide +kernel
theorem dX5_unmarkHeads_33 : decode cX5_unmarkHeads 33 = .ok (.aload 4, 2) := by decide +kernel
theorem dX5_unmarkHeads_35 : decode cX5_unmarkHeads 35 = .ok (.aload_n 1, 1) := by decide +kernel
theorem dX5_unmarkHeads_36 : decode cX5_unmarkHeads 36 = .ok (.if_acmp .eq 9, 3) := by decide +kernel
theorem dX5_unmarkHeads_39 : decode cX5_unmarkHeads 39 = .ok (.aload 4, 2) := by decide +kernel
theorem dX5_unmarkHeads_41 : decode cX5_unmarkHeads 41 = .ok (.iconst 0, 1) := by decide +kernel
theorem dX5_unmarkHeads_42 : decode cX5_unmarkHeads 42 = .ok (.putfield 91, 3) := by decide +kernel
theorem dX5_unmarkHeads_45 : decode cX5_unmarkHeads 45 = .ok (.iinc 3 1, 3) := by decide +kernel
theorem dX5_unmarkHeads_48 : decode cX5_unmarkHeads 48 = .ok (.goto (-33), 3) := by decide +kernel
theorem dX5_unmarkHeads_51 : decode cX5_unmarkHeads 51 = .ok (.return_, 1) := by decide +kernel
theorem sgX3_init_0 {X : CX} {d mc ms cells slots : Nat} {pp : Hp → Prop} {h : Hp} {t : Nat} {x1 : Int32}  (C : CmV X mX3_init d mc ms pp) (hr1 : 1 ≤ d) (h0 : h.K t = 4) (k0 : At X cells slots 12 [some (va_rf (some t)), some (.int x1)] [.int 17, va_rf (some t)] (h.sI 300 t x1)) : At X cells slots 0 [some (va_rf (some t)), some (.int x1)] [] h := by
  refine st_aload_n (pc := 0) C.1 (some t) dX3_init_0 rfl rfl ?_
  refine st_objInit (pc := 1) C.1 wM_RX3_3 wObjI wObjC dX3_init_1 (by rw [C.2.2.1]; exact hr1) (by rw [C.2.2.1]; exact Nat.le_trans (Nat.le_of_ble_eq_true rfl) (Nat.mul_le_mul_left 30 hr1)) ?_
  refine st_aload_n (pc := 4) C.1 (some t) dX3_init_4 rfl rfl ?_
  refine st_iload_n (pc := 5) C.1 dX3_init_5 rfl rfl ?_
  refine pI_RX3_9 (pc := 6) C.1 dX3_init_6 h0 C.2.2.2.2.1 ?_
  refine st_aload_n (pc := 9) C.1 (some t) dX3_init_9 rfl rfl ?_
  refine st_bipush (pc := 10) (v := 17) C.1 dX3_init_10 (by decide) ?_
  exact k0

theorem sgX3_init_15 {X : CX} {d mc ms cells slots : Nat} {pp : Hp → Prop} {h : Hp} {t : Nat} {x1 : Int32} {p0 : Option Nat} {q1 : Nat}  (C : CmV X mX3_init d mc ms pp) (h0 : h.K q1 = 4) (k0 : At X cells slots 19 [some (va_rf (some t)), some (.int x1)] [va_rf (some t)] (h.sR 301 q1 p0)) : At X cells slots 15 [some (va_rf (some t)), some (.int x1)] [va_rf p0, va_rf (some q1)] h := by
  refine pR_RX3_17 (pc := 15) C.1 p0 dX3_init_15 h0 C.2.2.2.2.1 ?_
  refine st_aload_n (pc := 18) C.1 (some t) dX3_init_18 rfl rfl ?_
  exact k0

theorem sgX3_init_22 {X : CX} {d mc ms cells slots : Nat} {pp : Hp → Prop} {h : Hp} {t : Nat} {x1 : Int32} {p0 : Option Nat} {p1 : Option Nat}  (C : CmV X mX3_init d mc ms pp)  (k0 : At X cells slots 25 [some (va_rf (some t)), some (.int x1)] [.int 0, .int 0, va_rf p0, va_rf p0, va_rf p1] h) : At X cells slots 22 [some (va_rf (some t)), some (.int x1)] [va_rf p0, va_rf p1] h := by
  refine st_dup (pc := 22) C.1 dX3_init_22 (rf_cat p0) ?_
  refine st_iconst (pc := 23) (v := 0) C.1 dX3_init_23 (by decide) ?_
  refine st_iconst (pc := 24) (v := 0) C.1 dX3_init_24 (by decide) ?_
  exact k0

theorem sgX3_init_28 {X : CX} {d mc ms cells slots : Nat} {pp : Hp → Prop} {h : Hp} {t : Nat} {x1 : Int32} {p0 : Option Nat} {q1 : Nat}  (C : CmV X mX3_init d mc ms pp) (hc : cells ≤ mc) (hs : slots ≤ ms) (h0 : h.K q1 = 4) (h1 : h.K t = 4) (k0 : pp (((h.sR 302 q1 p0).sI 303 t 1).sI 304 t 1)) : At X cells slots 28 [some (va_rf (some t)), some (.int x1)] [va_rf p0, va_rf (some q1)] h := by
  refine pR_RX3_24 (pc := 28) C.1 p0 dX3_init_28 h0 C.2.2.2.2.1 ?_
  refine st_aload_n (pc := 31) C.1 (some t) dX3_init_31 rfl rfl ?_
  refine st_iconst (pc := 32) (v := 1) C.1 dX3_init_32 (by decide) ?_
  refine pI_RX3_28 (pc := 33) C.1 dX3_init_33 h1 ?_
  refine st_aload_n (pc := 36) C.1 (some t) dX3_init_36 rfl rfl ?_
  refine st_iconst (pc := 37) (v := 1) C.1 dX3_init_37 (by decide) ?_
  refine pI_RX3_31 (pc := 38) C.1 dX3_init_38 h1 ?_
  exact rt_v C rfl dX3_init_41 hc hs ⟨rfl, k0⟩

theorem nwX3_init_12 {X : CX} {d0 mc0 ms0 cells slots : Nat} {pp : Hp → Prop} {h : Hp} {ls : List (Option Value)} {st : List Value} {n : Int32} (C : CmV X mX3_init d0 mc0 ms0 pp) (hn : ¬ n < 0) (hb : n.toNatClampNeg ≤ 60000000) (hmc : cells + 1 ≤ mc0) (hms : slots + n.toNatClampNeg ≤ ms0) (kk : ∀ q, h.K q = 0 → At X (cells + 1) (slots + n.toNatClampNeg) 15 ls (va_rf (some q) :: st) (h.nw q 14 n.toNatClampNeg)) : At X cells slots 12 ls (.int n :: st) h :=
  st_anewarray (pc := 12) C.1 14 3 (R := RX2) (by simp) wK_RX3_15 dX3_init_12 hn hb (by rw [C.2.2.1]; exact hmc) (by rw [C.2.2.1]; exact hms) kk
theorem nwX3_init_19 {X : CX} {d0 mc0 ms0 cells slots : Nat} {pp : Hp → Prop} {h : Hp} {ls : List (Option Value)} {st : List Value} (C : CmV X mX3_init d0 mc0 ms0 pp) (hmc : cells + 1 ≤ mc0) (hms : slots + 3 ≤ ms0) (kk : ∀ q, h.K q = 0 → At X (cells + 1) (slots + 3) 22 ls (va_rf (some q) :: st) (h.nw q 3 0)) : At X cells slots 19 ls st h :=
  st_new (pc := 19) (ci := 2) C.1 rfl gX2 tyX2_ok wK_RX3_15 wN_RX2 wI_RX2 dX3_init_19 (by decide) (by decide) (by rw [C.2.2.1]; exact hmc) (by rw [C.2.2.1]; exact hms) kk
theorem clX3_init_25 {X : CX} {d0 mc0 ms0 d mc ms cells slots : Nat} {pp : Hp → Prop} {h : Hp} {ls : List (Option Value)} {rest : List Value} {b : Nat} {a0 a1 : Value} {post : Hp → Prop} (C : CmV X mX3_init d0 mc0 ms0 pp) (hct : CtV mX2_init d mc ms [va_rf (some b), a0, a1] h post) (hdd : d < d0) (hmc : cells + mc ≤ mc0) (hms : slots + ms ≤ ms0) (hcat : (rest.map fun v => v.category).sum ≤ 8) (kk : ∀ h', post h' → At X (cells + mc) (slots + ms) 28 ls rest h') : At X cells slots 25 ls (a1 :: a0 :: va_rf (some b) :: rest) h :=
  st_callI (pc := 25) (M := mX2_init) (idx := 21) (As := [a0, a1]) C.1 C.2.2.1 C.2.2.2.2.2.2 rfl (n := 2) ⟨wM_RX3_21, wC_X2_init, wI_RX2, by decide +kernel, by decide⟩ wV_X2_init rfl dX3_init_25 rfl hdd hcat hct hmc hms (fun v h2 hp => by obtain ⟨rfl, hp⟩ := hp; exact kk h2 hp)
theorem sgX3_find_0 {X : CX} {d mc ms cells slots : Nat} {pp : Int32 → Hp → Prop} {h : Hp} {t : Nat} {x1 : Int32}  (C : CmI X mX3_find d mc ms pp)  (k0 : At X cells slots 2 [some (va_rf (some t)), some (.int x1), none] [.int x1, va_rf (some t)] h) : At X cells slots 0 [some (va_rf (some t)), some (.int x1), none] [] h := by
  refine st_aload_n (pc := 0) C.1 (some t) dX3_find_0 rfl rfl ?_
  refine st_iload_n (pc := 1) C.1 dX3_find_1 rfl rfl ?_
  exact k0

theorem sgX3_find_5 {X : CX} {d mc ms cells slots : Nat} {pp : Int32 → Hp → Prop} {h : Hp} {t : Nat} {x1 : Int32} {p0 : Option Nat}  (C : CmI X mX3_find d mc ms pp) (hc : cells ≤ mc) (hs : slots ≤ ms) (h0 : ∀ z0 : Nat, p0 = some z0 → h.K z0 = 3) (h1 : ∀ z0 : Nat, p0 = some z0 → h.I 201 z0 ≤ x1 → h.K z0 = 3) (h2 : h.K t = 4) (h3 : ∀ z0 : Nat, p0 = some z0 → ¬ h.I 201 z0 ≤ x1 → h.K z0 = 3) (k0 : ∀ z0 : Nat, p0 = some z0 → h.I 201 z0 ≤ x1 → pp (h.I 200 z0) h) (k1 : ∀ z0 : Nat, p0 = some z0 → ¬ h.I 201 z0 ≤ x1 → At X cells slots 57 [some (va_rf (some t)), some (.int x1), some (va_rf (some z0))] [.int ((h.I 201 z0) - x1), .int ((h.I 200 z0) + x1), va_rf (some t)] (h.sI 307 t ((h.I 307 t) + 1))) (k2 : p0 = none → At X cells slots 12 [some (va_rf (some t)), some (.int x1), some (va_rf none)] [.int x1, va_rf (some t)] h) : At X cells slots 5 [some (va_rf (some t)), some (.int x1), none] [va_rf p0] h := by
  refine sv_astore_n (pc := 5) (i := 2) C.1 [some (va_rf (some t)), some (.int x1), some (va_rf p0)] p0 dX3_find_5 rfl (Nat.le_of_ble_eq_true rfl) (by rw [C.2.1]; exact Nat.le_of_ble_eq_true rfl) rfl rfl ?_
  refine st_aload_n (pc := 6) C.1 p0 dX3_find_6 rfl rfl ?_
  refine st_ifnonnull (pc := 7) (o := p0) (tgt := 16) C.1 dX3_find_7 (by decide) (fun z0 c0 => ?_) (fun c0 => ?_)
  · try rw [c0]
    refine st_aload_n (pc := 16) C.1 (some z0) dX3_find_16 rfl rfl ?_
    refine st_ifnonnull (pc := 17) (o := some z0) (tgt := 26) C.1 dX3_find_17 (by decide) (fun z1 c1 => ?_) (fun c1 => ?_)
    · refine st_aload_n (pc := 26) C.1 (some z0) dX3_find_26 rfl rfl ?_
      refine gI_RX3_45 (pc := 27) C.1 (h.I 201 z0) dX3_find_27 (h0 z0 c0) rfl ?_
      refine st_iload_n (pc := 30) C.1 dX3_find_30 rfl rfl ?_
      refine st_icmp_le (pc := 31) (tgt := 60) C.1 dX3_find_31 (by decide) (fun c2 => ?_) (fun c2 => ?_)
      · refine st_aload_n (pc := 60) C.1 (some z0) dX3_find_60 rfl rfl ?_
        refine gI_RX3_51 (pc := 61) C.1 (h.I 200 z0) dX3_find_61 (h1 z0 c0 c2) rfl ?_
        exact rt_i C (Or.inl rfl) dX3_find_64 hc hs ⟨_, rfl, (k0 z0 c0 c2)⟩
      · refine st_aload_n (pc := 34) C.1 (some t) dX3_find_34 rfl rfl ?_
        refine st_dup (pc := 35) C.1 dX3_find_35 (rf_cat (some t)) ?_
        refine gI_RX3_48 (pc := 36) C.1 (h.I 307 t) dX3_find_36 h2 rfl ?_
        refine st_iconst (pc := 39) (v := 1) C.1 dX3_find_39 (by decide) ?_
        refine st_iadd (pc := 40) C.1 dX3_find_40 ?_
        refine pI_RX3_48 (pc := 41) C.1 dX3_find_41 h2 ?_
        refine st_aload_n (pc := 44) C.1 (some t) dX3_find_44 rfl rfl ?_
        refine st_aload_n (pc := 45) C.1 (some z0) dX3_find_45 rfl rfl ?_
        refine gI_RX3_51 (pc := 46) C.1 (h.I 200 z0) dX3_find_46 (h3 z0 c0 c2) rfl ?_
        refine st_iload_n (pc := 49) C.1 dX3_find_49 rfl rfl ?_
        refine st_iadd (pc := 50) C.1 dX3_find_50 ?_
        refine st_aload_n (pc := 51) C.1 (some z0) dX3_find_51 rfl rfl ?_
        refine gI_RX3_45 (pc := 52) C.1 (h.I 201 z0) dX3_find_52 (h3 z0 c0 c2) rfl ?_
        refine st_iload_n (pc := 55) C.1 dX3_find_55 rfl rfl ?_
        refine st_isub (pc := 56) C.1 dX3_find_56 ?_
        exact (k1 z0 c0 c2)
    · cases c1
  · try rw [c0]
    refine st_aload_n (pc := 10) C.1 (some t) dX3_find_10 rfl rfl ?_
    refine st_iload_n (pc := 11) C.1 dX3_find_11 rfl rfl ?_
    exact (k2 c0)

theorem sgX3_find_15 {X : CX} {d mc ms cells slots : Nat} {pp : Int32 → Hp → Prop} {h : Hp} {t : Nat} {x1 : Int32} {o2 : Option Nat} {p0 : Option Nat}  (C : CmI X mX3_find d mc ms pp) (hc : cells ≤ mc) (hs : slots ≤ ms) (h0 : ∀ z0 : Nat, p0 = some z0 → h.K z0 = 3) (h1 : ∀ z0 : Nat, p0 = some z0 → h.I 201 z0 ≤ x1 → h.K z0 = 3) (h2 : h.K t = 4) (h3 : ∀ z0 : Nat, p0 = some z0 → ¬ h.I 201 z0 ≤ x1 → h.K z0 = 3) (k0 : ∀ z0 : Nat, p0 = some z0 → h.I 201 z0 ≤ x1 → pp (h.I 200 z0) h) (k1 : ∀ z0 : Nat, p0 = some z0 → ¬ h.I 201 z0 ≤ x1 → At X cells slots 57 [some (va_rf (some t)), some (.int x1), some (va_rf (some z0))] [.int ((h.I 201 z0) - x1), .int ((h.I 200 z0) + x1), va_rf (some t)] (h.sI 307 t ((h.I 307 t) + 1))) (k2 : p0 = none → At X cells slots 22 [some (va_rf (some t)), some (.int x1), some (va_rf none)] [.int x1, va_rf (some t)] h) : At X cells slots 15 [some (va_rf (some t)), some (.int x1), some (va_rf o2)] [va_rf p0] h := by
  refine sv_astore_n (pc := 15) (i := 2) C.1 [some (va_rf (some t)), some (.int x1), some (va_rf p0)] p0 dX3_find_15 rfl (Nat.le_of_ble_eq_true rfl) (by rw [C.2.1]; exact Nat.le_of_ble_eq_true rfl) rfl rfl ?_
  refine st_aload_n (pc := 16) C.1 p0 dX3_find_16 rfl rfl ?_
  refine st_ifnonnull (pc := 17) (o := p0) (tgt := 26) C.1 dX3_find_17 (by decide) (fun z0 c0 => ?_) (fun c0 => ?_)
  · try rw [c0]
    refine st_aload_n (pc := 26) C.1 (some z0) dX3_find_26 rfl rfl ?_
    refine gI_RX3_45 (pc := 27) C.1 (h.I 201 z0) dX3_find_27 (h0 z0 c0) rfl ?_
    refine st_iload_n (pc := 30) C.1 dX3_find_30 rfl rfl ?_
    refine st_icmp_le (pc := 31) (tgt := 60) C.1 dX3_find_31 (by decide) (fun c1 => ?_) (fun c1 => ?_)
    · refine st_aload_n (pc := 60) C.1 (some z0) dX3_find_60 rfl rfl ?_
      refine gI_RX3_51 (pc := 61) C.1 (h.I 200 z0) dX3_find_61 (h1 z0 c0 c1) rfl ?_
      exact rt_i C (Or.inl rfl) dX3_find_64 hc hs ⟨_, rfl, (k0 z0 c0 c1)⟩
    · refine st_aload_n (pc := 34) C.1 (some t) dX3_find_34 rfl rfl ?_
      refine st_dup (pc := 35) C.1 dX3_find_35 (rf_cat (some t)) ?_
      refine gI_RX3_48 (pc := 36) C.1 (h.I 307 t) dX3_find_36 h2 rfl ?_
      refine st_iconst (pc := 39) (v := 1) C.1 dX3_find_39 (by decide) ?_
      refine st_iadd (pc := 40) C.1 dX3_find_40 ?_
      refine pI_RX3_48 (pc := 41) C.1 dX3_find_41 h2 ?_
      refine st_aload_n (pc := 44) C.1 (some t) dX3_find_44 rfl rfl ?_
      refine st_aload_n (pc := 45) C.1 (some z0) dX3_find_45 rfl rfl ?_
      refine gI_RX3_51 (pc := 46) C.1 (h.I 200 z0) dX3_find_46 (h3 z0 c0 c1) rfl ?_
      refine st_iload_n (pc := 49) C.1 dX3_find_49 rfl rfl ?_
      refine st_iadd (pc := 50) C.1 dX3_find_50 ?_
      refine st_aload_n (pc := 51) C.1 (some z0) dX3_find_51 rfl rfl ?_
      refine gI_RX3_45 (pc := 52) C.1 (h.I 201 z0) dX3_find_52 (h3 z0 c0 c1) rfl ?_
      refine st_iload_n (pc := 55) C.1 dX3_find_55 rfl rfl ?_
      refine st_isub (pc := 56) C.1 dX3_find_56 ?_
      exact (k1 z0 c0 c1)
  · try rw [c0]
    refine st_aload_n (pc := 20) C.1 (some t) dX3_find_20 rfl rfl ?_
    refine st_iload_n (pc := 21) C.1 dX3_find_21 rfl rfl ?_
    exact (k2 c0)

theorem sgX3_find_25 {X : CX} {d mc ms cells slots : Nat} {pp : Int32 → Hp → Prop} {h : Hp} {t : Nat} {x1 : Int32} {o2 : Option Nat} {u0 : Int32}  (C : CmI X mX3_find d mc ms pp) (hc : cells ≤ mc) (hs : slots ≤ ms)  (k0 : pp u0 h) : At X cells slots 25 [some (va_rf (some t)), some (.int x1), some (va_rf o2)] [.int u0] h := by
  exact rt_i C (Or.inl rfl) dX3_find_25 hc hs ⟨_, rfl, k0⟩

theorem sgX3_find_60 {X : CX} {d mc ms cells slots : Nat} {pp : Int32 → Hp → Prop} {h : Hp} {t : Nat} {x1 : Int32} {b2 : Nat}  (C : CmI X mX3_find d mc ms pp) (hc : cells ≤ mc) (hs : slots ≤ ms) (h0 : h.K b2 = 3) (k0 : pp (h.I 200 b2) h) : At X cells slots 60 [some (va_rf (some t)), some (.int x1), some (va_rf (some b2))] [] h := by
  refine st_aload_n (pc := 60) C.1 (some b2) dX3_find_60 rfl rfl ?_
  refine gI_RX3_51 (pc := 61) C.1 (h.I 200 b2) dX3_find_61 h0 rfl ?_
  exact rt_i C (Or.inl rfl) dX3_find_64 hc hs ⟨_, rfl, k0⟩

theorem clX3_find_2 {X : CX} {d0 mc0 ms0 d mc ms cells slots : Nat} {pp : Int32 → Hp → Prop} {h : Hp} {ls : List (Option Value)} {rest : List Value} {b : Nat} {a0 : Value} {post : Option Nat → Hp → Prop} (C : CmI X mX3_find d0 mc0 ms0 pp) (hct : CtR mX3_takeFromPiles d mc ms [va_rf (some b), a0] h post) (hK : h.K b = 4) (hdd : d < d0) (hmc : cells + mc ≤ mc0) (hms : slots + ms ≤ ms0) (hcat : (rest.map fun v => v.category).sum ≤ 8) (kk : ∀ o h', post o h' → At X (cells + mc) (slots + ms) 5 ls (va_rf o :: rest) h') : At X cells slots 2 ls (a0 :: va_rf (some b) :: rest) h :=
  st_callV (pc := 2) (M := mX3_takeFromPiles) (idx := 34) (As := [a0]) C.1 C.2.2.1 C.2.2.2.2.2.2 ⟨wM_RX3_34, wC_X3_takeFromPiles, wI_RX3, by decide +kernel, by decide⟩ wV_X3_takeFromPiles wS_X3_takeFromPiles (ci := 3) (n := 1) rfl rfl (by decide) dX3_find_2 rfl hdd hcat hK hct hmc hms (fun v h2 hp => by obtain ⟨o, rfl, hp⟩ := hp; exact kk o h2 hp)
theorem clX3_find_12 {X : CX} {d0 mc0 ms0 d mc ms cells slots : Nat} {pp : Int32 → Hp → Prop} {h : Hp} {ls : List (Option Value)} {rest : List Value} {b : Nat} {a0 : Value} {post : Option Nat → Hp → Prop} (C : CmI X mX3_find d0 mc0 ms0 pp) (hct : CtR mX3_takeGreat d mc ms [va_rf (some b), a0] h post) (hK : h.K b = 4) (hdd : d < d0) (hmc : cells + mc ≤ mc0) (hms : slots + ms ≤ ms0) (hcat : (rest.map fun v => v.category).sum ≤ 8) (kk : ∀ o h', post o h' → At X (cells + mc) (slots + ms) 15 ls (va_rf o :: rest) h') : At X cells slots 12 ls (a0 :: va_rf (some b) :: rest) h :=
  st_callV (pc := 12) (M := mX3_takeGreat) (idx := 38) (As := [a0]) C.1 C.2.2.1 C.2.2.2.2.2.2 ⟨wM_RX3_38, wC_X3_takeGreat, wI_RX3, by decide +kernel, by decide⟩ wV_X3_takeGreat wS_X3_takeGreat (ci := 3) (n := 1) rfl rfl (by decide) dX3_find_12 rfl hdd hcat hK hct hmc hms (fun v h2 hp => by obtain ⟨o, rfl, hp⟩ := hp; exact kk o h2 hp)
theorem clX3_find_22 {X : CX} {d0 mc0 ms0 d mc ms cells slots : Nat} {pp : Int32 → Hp → Prop} {h : Hp} {ls : List (Option Value)} {rest : List Value} {b : Nat} {a0 : Value} {post : Int32 → Hp → Prop} (C : CmI X mX3_find d0 mc0 ms0 pp) (hct : CtI mX3_takeFromTop d mc ms [va_rf (some b), a0] h post) (hK : h.K b = 4) (hdd : d < d0) (hmc : cells + mc ≤ mc0) (hms : slots + ms ≤ ms0) (hcat : (rest.map fun v => v.category).sum ≤ 8) (kk : ∀ r h', post r h' → At X (cells + mc) (slots + ms) 25 ls (.int r :: rest) h') : At X cells slots 22 ls (a0 :: va_rf (some b) :: rest) h :=
  st_callV (pc := 22) (M := mX3_takeFromTop) (idx := 41) (As := [a0]) C.1 C.2.2.1 C.2.2.2.2.2.2 ⟨wM_RX3_41, wC_X3_takeFromTop, wI_RX3, by decide +kernel, by decide⟩ wV_X3_takeFromTop wS_X3_takeFromTop (ci := 3) (n := 1) rfl rfl (by decide) dX3_find_22 rfl hdd hcat hK hct hmc hms (fun v h2 hp => by obtain ⟨r, rfl, hp⟩ := hp; exact kk r h2 hp)
theorem clX3_find_57 {X : CX} {d0 mc0 ms0 d mc ms cells slots : Nat} {pp : Int32 → Hp → Prop} {h : Hp} {ls : List (Option Value)} {rest : List Value} {b : Nat} {a0 a1 : Value} {post : Hp → Prop} (C : CmI X mX3_find d0 mc0 ms0 pp) (hct : CtV mX3_release d mc ms [va_rf (some b), a0, a1] h post) (hK : h.K b = 4) (hdd : d < d0) (hmc : cells + mc ≤ mc0) (hms : slots + ms ≤ ms0) (hcat : (rest.map fun v => v.category).sum ≤ 8) (kk : ∀ h', post h' → At X (cells + mc) (slots + ms) 60 ls rest h') : At X cells slots 57 ls (a1 :: a0 :: va_rf (some b) :: rest) h :=
  st_callV (pc := 57) (M := mX3_release) (idx := 54) (As := [a0, a1]) C.1 C.2.2.1 C.2.2.2.2.2.2 ⟨wM_RX3_54, wC_X3_release, wI_RX3, by decide +kernel, by decide⟩ wV_X3_release wS_X3_release (ci := 3) (n := 2) rfl rfl (by decide) dX3_find_57 rfl hdd hcat hK hct hmc hms (fun v h2 hp => by obtain ⟨rfl, hp⟩ := hp; exact kk h2 hp)
theorem sgX3_takeFromPiles_0 {X : CX} {d mc ms cells slots : Nat} {pp : Option Nat → Hp → Prop} {h : Hp} {t : Nat} {x1 : Int32}  (C : CmR X mX3_takeFromPiles d mc ms pp)  (k0 : At X cells slots 2 [some (va_rf (some t)), some (.int x1), none, none] [.int 0, .int x1] h) : At X cells slots 0 [some (va_rf (some t)), some (.int x1), none, none] [] h := by
  refine st_iload_n (pc := 0) C.1 dX3_takeFromPiles_0 rfl rfl ?_
  refine st_iconst (pc := 1) (v := 0) C.1 dX3_takeFromPiles_1 (by decide) ?_
  exact k0

theorem sgX3_takeFromPiles_5 {X : CX} {d mc ms cells slots : Nat} {pp : Option Nat → Hp → Prop} {h : Hp} {t : Nat} {x1 : Int32} {u0 : Int32}  (C : CmR X mX3_takeFromPiles d mc ms pp)  (k0 : At X cells slots 8 [some (va_rf (some t)), some (.int x1), some (.int (u0 / 4)), none] [] h) : At X cells slots 5 [some (va_rf (some t)), some (.int x1), none, none] [.int u0] h := by
  refine st_iconst (pc := 5) (v := 4) C.1 dX3_takeFromPiles_5 (by decide) ?_
  refine st_idiv (pc := 6) C.1 dX3_takeFromPiles_6 (by decide) ?_
  refine sv_istore_n (pc := 7) (i := 2) C.1 [some (va_rf (some t)), some (.int x1), some (.int (u0 / 4)), none] dX3_takeFromPiles_7 rfl (Nat.le_of_ble_eq_true rfl) (by rw [C.2.1]; exact Nat.le_of_ble_eq_true rfl) rfl rfl ?_
  exact k0

theorem sgX3_takeFromPiles_8 {X : CX} {d mc ms cells slots : Nat} {pp : Option Nat → Hp → Prop} {h : Hp} {t : Nat} {x1 : Int32} {x2 : Int32} {r0 : Nat} (C : CmR X mX3_takeFromPiles d mc ms pp) (hc : cells ≤ mc) (hs : slots ≤ ms) (h0 : h.K t = 4) (h1 : h.R 301 t = some r0) (h2 : h.K r0 = 14) (h3 : ¬ nI (h.N r0) ≤ x2 → vp_in x2 (h.N r0)) (h4 : ¬ nI (h.N r0) ≤ x2 → ∀ z1 : Nat, h.AR r0 (x2.toNatClampNeg) = some z1 → h.K z1 = 3) (h5 : ¬ nI (h.N r0) ≤ x2 → ∀ z1 : Nat, h.AR r0 (x2.toNatClampNeg) = some z1 → vp_in x2 (h.N r0)) (h6 : ¬ nI (h.N r0) ≤ x2 → ∀ z1 : Nat, h.AR r0 (x2.toNatClampNeg) = some z1 → ∀ vv, h.R 202 z1 = some vv → h.K vv = 3) (k0 : nI (h.N r0) ≤ x2 → pp none h) (k1 : ¬ nI (h.N r0) ≤ x2 → h.AR r0 (x2.toNatClampNeg) = none → At X cells slots 8 [some (va_rf (some t)), some (.int x1), some (.int (x2 + 1)), some (va_rf none)] [] h) (k2 : ¬ nI (h.N r0) ≤ x2 → ∀ z1 : Nat, h.AR r0 (x2.toNatClampNeg) = some z1 → pp (some z1) (((h.sAR r0 (x2.toNatClampNeg) (h.R 202 z1)).sI 305 t ((h.I 305 t) - 1)).sI 306 t ((h.I 306 t) - (h.I 201 z1)))) : At X cells slots 8 [some (va_rf (some t)), some (.int x1), some (.int x2), none] [] h := by
  refine st_iload_n (pc := 8) C.1 dX3_takeFromPiles_8 rfl rfl ?_
  refine st_aload_n (pc := 9) C.1 (some t) dX3_takeFromPiles_9 rfl rfl ?_
  refine gR_RX3_17 (pc := 10) C.1 (some r0) dX3_takeFromPiles_10 h0 h1 ?_
  refine st_alen (pc := 13) C.1 dX3_takeFromPiles_13 (Or.inr (Or.inr (Or.inr (Or.inl h2)))) ?_
  refine st_icmp_ge (pc := 14) (tgt := 69) C.1 dX3_takeFromPiles_14 (by decide) (fun c0 => ?_) (fun c0 => ?_)
  · refine st_nullq (pc := 69) C.1 dX3_takeFromPiles_69 ?_
    exact rt_a C none rfl dX3_takeFromPiles_70 hc hs ⟨_, rfl, (k0 c0)⟩
  · refine st_aload_n (pc := 17) C.1 (some t) dX3_takeFromPiles_17 rfl rfl ?_
    refine gR_RX3_17 (pc := 18) C.1 (some r0) dX3_takeFromPiles_18 h0 h1 ?_
    refine st_iload_n (pc := 21) C.1 dX3_takeFromPiles_21 rfl rfl ?_
    refine sv_aaload (pc := 22) C.1 (h.AR r0 (x2.toNatClampNeg)) dX3_takeFromPiles_22 (Or.inr h2) (h3 c0) rfl ?_
    refine sv_astore_n (pc := 23) (i := 3) C.1 [some (va_rf (some t)), some (.int x1), some (.int x2), some (va_rf (h.AR r0 (x2.toNatClampNeg)))] (h.AR r0 (x2.toNatClampNeg)) dX3_takeFromPiles_23 rfl (Nat.le_of_ble_eq_true rfl) (by rw [C.2.1]; exact Nat.le_of_ble_eq_true rfl) rfl rfl ?_
    refine st_aload_n (pc := 24) C.1 (h.AR r0 (x2.toNatClampNeg)) dX3_takeFromPiles_24 rfl rfl ?_
    refine st_ifnull (pc := 25) (o := h.AR r0 (x2.toNatClampNeg)) (tgt := 63) C.1 dX3_takeFromPiles_25 (by decide) (fun c1 => ?_) (fun z1 c1 => ?_)
    · try rw [c1]
      refine sv_iinc (pc := 63) (i := 2) (v := x2 + 1) C.1 [some (va_rf (some t)), some (.int x1), some (.int (x2 + 1)), some (va_rf none)] dX3_takeFromPiles_63 rfl rfl (by rw [C.2.1]; exact Nat.le_of_ble_eq_true rfl) rfl rfl ?_
      refine st_goto (pc := 66) (tgt := 8) C.1 dX3_takeFromPiles_66 (by decide) ?_
      exact (k1 c0 c1)
    · try rw [c1]
      refine st_aload_n (pc := 28) C.1 (some t) dX3_takeFromPiles_28 rfl rfl ?_
      refine gR_RX3_17 (pc := 29) C.1 (some r0) dX3_takeFromPiles_29 h0 h1 ?_
      refine st_iload_n (pc := 32) C.1 dX3_takeFromPiles_32 rfl rfl ?_
      refine st_aload_n (pc := 33) C.1 (some z1) dX3_takeFromPiles_33 rfl rfl ?_
      refine gR_RX3_63 (pc := 34) C.1 (h.R 202 z1) dX3_takeFromPiles_34 (h4 c0 z1 c1) rfl ?_
      refine st_aastore (pc := 37) C.1 (h.R 202 z1) dX3_takeFromPiles_37 (Or.inr ⟨h2, (h6 c0 z1 c1)⟩) (h5 c0 z1 c1) ?_
      refine st_aload_n (pc := 38) C.1 (some t) dX3_takeFromPiles_38 rfl rfl ?_
      refine st_dup (pc := 39) C.1 dX3_takeFromPiles_39 (rf_cat (some t)) ?_
      refine gI_RX3_66 (pc := 40) C.1 (h.I 305 t) dX3_takeFromPiles_40 h0 rfl ?_
      refine st_iconst (pc := 43) (v := 1) C.1 dX3_takeFromPiles_43 (by decide) ?_
      refine st_isub (pc := 44) C.1 dX3_takeFromPiles_44 ?_
      refine pI_RX3_66 (pc := 45) C.1 dX3_takeFromPiles_45 h0 ?_
      refine st_aload_n (pc := 48) C.1 (some t) dX3_takeFromPiles_48 rfl rfl ?_
      refine st_dup (pc := 49) C.1 dX3_takeFromPiles_49 (rf_cat (some t)) ?_
      refine gI_RX3_69 (pc := 50) C.1 (h.I 306 t) dX3_takeFromPiles_50 h0 rfl ?_
      refine st_aload_n (pc := 53) C.1 (some z1) dX3_takeFromPiles_53 rfl rfl ?_
      refine gI_RX3_45 (pc := 54) C.1 (h.I 201 z1) dX3_takeFromPiles_54 (h4 c0 z1 c1) rfl ?_
      refine st_isub (pc := 57) C.1 dX3_takeFromPiles_57 ?_
      refine pI_RX3_69 (pc := 58) C.1 dX3_takeFromPiles_58 h0 ?_
      refine st_aload_n (pc := 61) C.1 (some z1) dX3_takeFromPiles_61 rfl rfl ?_
      exact rt_a C (some z1) rfl dX3_takeFromPiles_62 hc hs ⟨_, rfl, (k2 c0 z1 c1)⟩

theorem clX3_takeFromPiles_2 {X : CX} {d0 mc0 ms0 d mc ms cells slots : Nat} {pp : Option Nat → Hp → Prop} {h : Hp} {ls : List (Option Value)} {rest : List Value} {a0 a1 : Value} {post : Int32 → Hp → Prop} (C : CmR X mX3_takeFromPiles d0 mc0 ms0 pp) (hct : CtI mJ9_max_7cf53 d mc ms [a0, a1] h post) (hdd : d < d0) (hmc : cells + mc ≤ mc0) (hms : slots + ms ≤ ms0) (hcat : (rest.map fun v => v.category).sum ≤ 8) (kk : ∀ r h', post r h' → At X (cells + mc) (slots + ms) 5 ls (.int r :: rest) h') : At X cells slots 2 ls (a1 :: a0 :: rest) h :=
  st_callS (pc := 2) (M := mJ9_max_7cf53) (idx := 57) (As := [a0, a1]) C.1 C.2.2.1 C.2.2.2.2.2.2 (n := 2) ⟨wM_RX3_57, wC_J9_max_7cf53, wI_RJ9, by decide +kernel, by decide⟩ wT_J9_max_7cf53 dX3_takeFromPiles_2 rfl hdd hcat hct hmc hms (fun v h2 hp => by obtain ⟨r, rfl, hp⟩ := hp; exact kk r h2 hp)
theorem sgX3_takeGreat_0 {X : CX} {d mc ms cells slots : Nat} {pp : Option Nat → Hp → Prop} {h : Hp} {t : Nat} {x1 : Int32} {r0 : Nat} (C : CmR X mX3_takeGreat d mc ms pp) (h0 : h.K t = 4) (h1 : h.R 302 t = some r0) (h2 : h.K r0 = 3) (k0 : At X cells slots 10 [some (va_rf (some t)), some (.int x1), some (va_rf none), some (va_rf (h.R 202 r0))] [] h) : At X cells slots 0 [some (va_rf (some t)), some (.int x1), none, none] [] h := by
  refine st_nullq (pc := 0) C.1 dX3_takeGreat_0 ?_
  refine sv_astore_n (pc := 1) (i := 2) C.1 [some (va_rf (some t)), some (.int x1), some (va_rf none), none] none dX3_takeGreat_1 rfl (Nat.le_of_ble_eq_true rfl) (by rw [C.2.1]; exact Nat.le_of_ble_eq_true rfl) rfl rfl ?_
  refine st_aload_n (pc := 2) C.1 (some t) dX3_takeGreat_2 rfl rfl ?_
  refine gR_RX3_24 (pc := 3) C.1 (some r0) dX3_takeGreat_3 h0 h1 ?_
  refine gR_RX3_63 (pc := 6) C.1 (h.R 202 r0) dX3_takeGreat_6 h2 rfl ?_
  refine sv_astore_n (pc := 9) (i := 3) C.1 [some (va_rf (some t)), some (.int x1), some (va_rf none), some (va_rf (h.R 202 r0))] (h.R 202 r0) dX3_takeGreat_9 rfl (Nat.le_of_ble_eq_true rfl) (by rw [C.2.1]; exact Nat.le_of_ble_eq_true rfl) rfl rfl ?_
  exact k0

theorem sgX3_takeGreat_10 {X : CX} {d mc ms cells slots : Nat} {pp : Option Nat → Hp → Prop} {h : Hp} {t : Nat} {x1 : Int32} {o2 : Option Nat} {o3 : Option Nat}  (C : CmR X mX3_takeGreat d mc ms pp) (hc : cells ≤ mc) (hs : slots ≤ ms) (h0 : ∀ z0 : Nat, o3 = some z0 → h.K z0 = 3) (h1 : ∀ z0 : Nat, o3 = some z0 → h.I 201 z0 < x1 → h.K z0 = 3) (h2 : ∀ z0 : Nat, o3 = some z0 → ¬ h.I 201 z0 < x1 → o2 = none → h.K z0 = 3) (h3 : ∀ z0 : Nat, o3 = some z0 → ¬ h.I 201 z0 < x1 → ∀ z3 : Nat, o2 = some z3 → h.K z0 = 3) (h4 : ∀ z0 : Nat, o3 = some z0 → ¬ h.I 201 z0 < x1 → ∀ z3 : Nat, o2 = some z3 → h.K z3 = 3) (h5 : ∀ z0 : Nat, o3 = some z0 → ¬ h.I 201 z0 < x1 → ∀ z3 : Nat, o2 = some z3 → h.I 201 z3 ≤ h.I 201 z0 → h.K z0 = 3) (h6 : ∀ z0 : Nat, o3 = some z0 → ¬ h.I 201 z0 < x1 → ∀ z3 : Nat, o2 = some z3 → ¬ h.I 201 z3 ≤ h.I 201 z0 → h.K z0 = 3) (k0 : o3 = none → o2 = none → pp none h) (k1 : o3 = none → ∀ z1 : Nat, o2 = some z1 → At X cells slots 53 [some (va_rf (some t)), some (.int x1), some (va_rf (some z1)), some (va_rf none)] [va_rf (some z1), va_rf (some t)] h) (k2 : ∀ z0 : Nat, o3 = some z0 → h.I 201 z0 < x1 → At X cells slots 10 [some (va_rf (some t)), some (.int x1), some (va_rf o2), some (va_rf (h.R 202 z0))] [] h) (k3 : ∀ z0 : Nat, o3 = some z0 → ¬ h.I 201 z0 < x1 → o2 = none → At X cells slots 10 [some (va_rf (some t)), some (.int x1), some (va_rf (some z0)), some (va_rf (h.R 202 z0))] [] h) (k4 : ∀ z0 : Nat, o3 = some z0 → ¬ h.I 201 z0 < x1 → ∀ z3 : Nat, o2 = some z3 → h.I 201 z3 ≤ h.I 201 z0 → At X cells slots 10 [some (va_rf (some t)), some (.int x1), some (va_rf (some z3)), some (va_rf (h.R 202 z0))] [] h) (k5 : ∀ z0 : Nat, o3 = some z0 → ¬ h.I 201 z0 < x1 → ∀ z3 : Nat, o2 = some z3 → ¬ h.I 201 z3 ≤ h.I 201 z0 → At X cells slots 10 [some (va_rf (some t)), some (.int x1), some (va_rf (some z0)), some (va_rf (h.R 202 z0))] [] h) : At X cells slots 10 [some (va_rf (some t)), some (.int x1), some (va_rf o2), some (va_rf o3)] [] h := by
  refine st_aload_n (pc := 10) C.1 o3 dX3_takeGreat_10 rfl rfl ?_
  refine st_ifnull (pc := 11) (o := o3) (tgt := 47) C.1 dX3_takeGreat_11 (by decide) (fun c0 => ?_) (fun z0 c0 => ?_)
  · try rw [c0]
    refine st_aload_n (pc := 47) C.1 o2 dX3_takeGreat_47 rfl rfl ?_
    refine st_ifnull (pc := 48) (o := o2) (tgt := 56) C.1 dX3_takeGreat_48 (by decide) (fun c1 => ?_) (fun z1 c1 => ?_)
    · try rw [c1]
      refine st_aload_n (pc := 56) C.1 none dX3_takeGreat_56 rfl rfl ?_
      exact rt_a C none rfl dX3_takeGreat_57 hc hs ⟨_, rfl, (k0 c0 c1)⟩
    · try rw [c1]
      refine st_aload_n (pc := 51) C.1 (some t) dX3_takeGreat_51 rfl rfl ?_
      refine st_aload_n (pc := 52) C.1 (some z1) dX3_takeGreat_52 rfl rfl ?_
      exact (k1 c0 z1 c1)
  · try rw [c0]
    refine st_aload_n (pc := 14) C.1 (some z0) dX3_takeGreat_14 rfl rfl ?_
    refine gI_RX3_45 (pc := 15) C.1 (h.I 201 z0) dX3_takeGreat_15 (h0 z0 c0) rfl ?_
    refine st_iload_n (pc := 18) C.1 dX3_takeGreat_18 rfl rfl ?_
    refine st_icmp_lt (pc := 19) (tgt := 39) C.1 dX3_takeGreat_19 (by decide) (fun c2 => ?_) (fun c2 => ?_)
    · refine st_aload_n (pc := 39) C.1 (some z0) dX3_takeGreat_39 rfl rfl ?_
      refine gR_RX3_63 (pc := 40) C.1 (h.R 202 z0) dX3_takeGreat_40 (h1 z0 c0 c2) rfl ?_
      refine sv_astore_n (pc := 43) (i := 3) C.1 [some (va_rf (some t)), some (.int x1), some (va_rf o2), some (va_rf (h.R 202 z0))] (h.R 202 z0) dX3_takeGreat_43 rfl (Nat.le_of_ble_eq_true rfl) (by rw [C.2.1]; exact Nat.le_of_ble_eq_true rfl) (l1_rf (o := o2) rfl) rfl ?_
      refine st_goto (pc := 44) (tgt := 10) C.1 dX3_takeGreat_44 (by decide) ?_
      exact (k2 z0 c0 c2)
    · refine st_aload_n (pc := 22) C.1 o2 dX3_takeGreat_22 rfl rfl ?_
      refine st_ifnull (pc := 23) (o := o2) (tgt := 37) C.1 dX3_takeGreat_23 (by decide) (fun c3 => ?_) (fun z3 c3 => ?_)
      · try rw [c3]
        refine st_aload_n (pc := 37) C.1 (some z0) dX3_takeGreat_37 rfl rfl ?_
        refine sv_astore_n (pc := 38) (i := 2) C.1 [some (va_rf (some t)), some (.int x1), some (va_rf (some z0)), some (va_rf (some z0))] (some z0) dX3_takeGreat_38 rfl (Nat.le_of_ble_eq_true rfl) (by rw [C.2.1]; exact Nat.le_of_ble_eq_true rfl) rfl rfl ?_
        refine st_aload_n (pc := 39) C.1 (some z0) dX3_takeGreat_39 rfl rfl ?_
        refine gR_RX3_63 (pc := 40) C.1 (h.R 202 z0) dX3_takeGreat_40 (h2 z0 c0 c2 c3) rfl ?_
        refine sv_astore_n (pc := 43) (i := 3) C.1 [some (va_rf (some t)), some (.int x1), some (va_rf (some z0)), some (va_rf (h.R 202 z0))] (h.R 202 z0) dX3_takeGreat_43 rfl (Nat.le_of_ble_eq_true rfl) (by rw [C.2.1]; exact Nat.le_of_ble_eq_true rfl) rfl rfl ?_
        refine st_goto (pc := 44) (tgt := 10) C.1 dX3_takeGreat_44 (by decide) ?_
        exact (k3 z0 c0 c2 c3)
      · try rw [c3]
        refine st_aload_n (pc := 26) C.1 (some z0) dX3_takeGreat_26 rfl rfl ?_
        refine gI_RX3_45 (pc := 27) C.1 (h.I 201 z0) dX3_takeGreat_27 (h3 z0 c0 c2 z3 c3) rfl ?_
        refine st_aload_n (pc := 30) C.1 (some z3) dX3_takeGreat_30 rfl rfl ?_
        refine gI_RX3_45 (pc := 31) C.1 (h.I 201 z3) dX3_takeGreat_31 (h4 z0 c0 c2 z3 c3) rfl ?_
        refine st_icmp_ge (pc := 34) (tgt := 39) C.1 dX3_takeGreat_34 (by decide) (fun c4 => ?_) (fun c4 => ?_)
        · refine st_aload_n (pc := 39) C.1 (some z0) dX3_takeGreat_39 rfl rfl ?_
          refine gR_RX3_63 (pc := 40) C.1 (h.R 202 z0) dX3_takeGreat_40 (h5 z0 c0 c2 z3 c3 c4) rfl ?_
          refine sv_astore_n (pc := 43) (i := 3) C.1 [some (va_rf (some t)), some (.int x1), some (va_rf (some z3)), some (va_rf (h.R 202 z0))] (h.R 202 z0) dX3_takeGreat_43 rfl (Nat.le_of_ble_eq_true rfl) (by rw [C.2.1]; exact Nat.le_of_ble_eq_true rfl) rfl rfl ?_
          refine st_goto (pc := 44) (tgt := 10) C.1 dX3_takeGreat_44 (by decide) ?_
          exact (k4 z0 c0 c2 z3 c3 c4)
        · refine st_aload_n (pc := 37) C.1 (some z0) dX3_takeGreat_37 rfl rfl ?_
          refine sv_astore_n (pc := 38) (i := 2) C.1 [some (va_rf (some t)), some (.int x1), some (va_rf (some z0)), some (va_rf (some z0))] (some z0) dX3_takeGreat_38 rfl (Nat.le_of_ble_eq_true rfl) (by rw [C.2.1]; exact Nat.le_of_ble_eq_true rfl) rfl rfl ?_
          refine st_aload_n (pc := 39) C.1 (some z0) dX3_takeGreat_39 rfl rfl ?_
          refine gR_RX3_63 (pc := 40) C.1 (h.R 202 z0) dX3_takeGreat_40 (h6 z0 c0 c2 z3 c3 c4) rfl ?_
          refine sv_astore_n (pc := 43) (i := 3) C.1 [some (va_rf (some t)), some (.int x1), some (va_rf (some z0)), some (va_rf (h.R 202 z0))] (h.R 202 z0) dX3_takeGreat_43 rfl (Nat.le_of_ble_eq_true rfl) (by rw [C.2.1]; exact Nat.le_of_ble_eq_true rfl) rfl rfl ?_
          refine st_goto (pc := 44) (tgt := 10) C.1 dX3_takeGreat_44 (by decide) ?_
          exact (k5 z0 c0 c2 z3 c3 c4)

theorem sgX3_takeGreat_56 {X : CX} {d mc ms cells slots : Nat} {pp : Option Nat → Hp → Prop} {h : Hp} {t : Nat} {x1 : Int32} {o2 : Option Nat} {o3 : Option Nat}  (C : CmR X mX3_takeGreat d mc ms pp) (hc : cells ≤ mc) (hs : slots ≤ ms)  (k0 : pp o2 h) : At X cells slots 56 [some (va_rf (some t)), some (.int x1), some (va_rf o2), some (va_rf o3)] [] h := by
  refine st_aload_n (pc := 56) C.1 o2 dX3_takeGreat_56 rfl rfl ?_
  exact rt_a C o2 rfl dX3_takeGreat_57 hc hs ⟨_, rfl, k0⟩

theorem clX3_takeGreat_53 {X : CX} {d0 mc0 ms0 d mc ms cells slots : Nat} {pp : Option Nat → Hp → Prop} {h : Hp} {ls : List (Option Value)} {rest : List Value} {b : Nat} {a0 : Value} {post : Hp → Prop} (C : CmR X mX3_takeGreat d0 mc0 ms0 pp) (hct : CtV mX3_unlinkGreat d mc ms [va_rf (some b), a0] h post) (hK : h.K b = 4) (hdd : d < d0) (hmc : cells + mc ≤ mc0) (hms : slots + ms ≤ ms0) (hcat : (rest.map fun v => v.category).sum ≤ 8) (kk : ∀ h', post h' → At X (cells + mc) (slots + ms) 56 ls rest h') : At X cells slots 53 ls (a0 :: va_rf (some b) :: rest) h :=
  st_callV (pc := 53) (M := mX3_unlinkGreat) (idx := 72) (As := [a0]) C.1 C.2.2.1 C.2.2.2.2.2.2 ⟨wM_RX3_72, wC_X3_unlinkGreat, wI_RX3, by decide +kernel, by decide⟩ wV_X3_unlinkGreat wS_X3_unlinkGreat (ci := 3) (n := 1) rfl rfl (by decide) dX3_takeGreat_53 rfl hdd hcat hK hct hmc hms (fun v h2 hp => by obtain ⟨rfl, hp⟩ := hp; exact kk h2 hp)
theorem sgX3_takeFromTop_0 {X : CX} {d mc ms cells slots : Nat} {pp : Int32 → Hp → Prop} {h : Hp} {t : Nat} {x1 : Int32}  (C : CmI X mX3_takeFromTop d mc ms pp) (hc : cells ≤ mc) (hs : slots ≤ ms) (h0 : h.K t = 4) (k0 : x1 ≤ (h.I 300 t) - (h.I 303 t) → At X cells slots 39 [some (va_rf (some t)), some (.int x1), some (.int (h.I 303 t))] [.int ((h.sI 303 t ((h.I 303 t) + x1)).I 303 t), .int (h.I 304 t), va_rf (some t)] (h.sI 303 t ((h.I 303 t) + x1))) (k1 : ¬ x1 ≤ (h.I 300 t) - (h.I 303 t) → pp (-1) h) : At X cells slots 0 [some (va_rf (some t)), some (.int x1), none] [] h := by
  refine st_iload_n (pc := 0) C.1 dX3_takeFromTop_0 rfl rfl ?_
  refine st_aload_n (pc := 1) C.1 (some t) dX3_takeFromTop_1 rfl rfl ?_
  refine gI_RX3_9 (pc := 2) C.1 (h.I 300 t) dX3_takeFromTop_2 h0 rfl ?_
  refine st_aload_n (pc := 5) C.1 (some t) dX3_takeFromTop_5 rfl rfl ?_
  refine gI_RX3_28 (pc := 6) C.1 (h.I 303 t) dX3_takeFromTop_6 h0 rfl ?_
  refine st_isub (pc := 9) C.1 dX3_takeFromTop_9 ?_
  refine st_icmp_le (pc := 10) (tgt := 15) C.1 dX3_takeFromTop_10 (by decide) (fun c0 => ?_) (fun c0 => ?_)
  · refine st_aload_n (pc := 15) C.1 (some t) dX3_takeFromTop_15 rfl rfl ?_
    refine gI_RX3_28 (pc := 16) C.1 (h.I 303 t) dX3_takeFromTop_16 h0 rfl ?_
    refine sv_istore_n (pc := 19) (i := 2) C.1 [some (va_rf (some t)), some (.int x1), some (.int (h.I 303 t))] dX3_takeFromTop_19 rfl (Nat.le_of_ble_eq_true rfl) (by rw [C.2.1]; exact Nat.le_of_ble_eq_true rfl) rfl rfl ?_
    refine st_aload_n (pc := 20) C.1 (some t) dX3_takeFromTop_20 rfl rfl ?_
    refine st_dup (pc := 21) C.1 dX3_takeFromTop_21 (rf_cat (some t)) ?_
    refine gI_RX3_28 (pc := 22) C.1 (h.I 303 t) dX3_takeFromTop_22 h0 rfl ?_
    refine st_iload_n (pc := 25) C.1 dX3_takeFromTop_25 rfl rfl ?_
    refine st_iadd (pc := 26) C.1 dX3_takeFromTop_26 ?_
    refine pI_RX3_28 (pc := 27) C.1 dX3_takeFromTop_27 h0 ?_
    refine st_aload_n (pc := 30) C.1 (some t) dX3_takeFromTop_30 rfl rfl ?_
    refine st_aload_n (pc := 31) C.1 (some t) dX3_takeFromTop_31 rfl rfl ?_
    refine gI_RX3_31 (pc := 32) C.1 (h.I 304 t) dX3_takeFromTop_32 h0 rfl ?_
    refine st_aload_n (pc := 35) C.1 (some t) dX3_takeFromTop_35 rfl rfl ?_
    refine gI_RX3_28 (pc := 36) C.1 ((h.sI 303 t ((h.I 303 t) + x1)).I 303 t) dX3_takeFromTop_36 h0 rfl ?_
    exact (k0 c0)
  · refine st_iconst (pc := 13) (v := (-1)) C.1 dX3_takeFromTop_13 (by decide) ?_
    exact rt_i C (Or.inl rfl) dX3_takeFromTop_14 hc hs ⟨_, rfl, (k1 c0)⟩

theorem sgX3_takeFromTop_42 {X : CX} {d mc ms cells slots : Nat} {pp : Int32 → Hp → Prop} {h : Hp} {t : Nat} {x1 : Int32} {x2 : Int32} {u0 : Int32} {q1 : Nat}  (C : CmI X mX3_takeFromTop d mc ms pp) (hc : cells ≤ mc) (hs : slots ≤ ms) (h0 : h.K q1 = 4) (k0 : pp x2 (h.sI 304 q1 u0)) : At X cells slots 42 [some (va_rf (some t)), some (.int x1), some (.int x2)] [.int u0, va_rf (some q1)] h := by
  refine pI_RX3_31 (pc := 42) C.1 dX3_takeFromTop_42 h0 ?_
  refine st_iload_n (pc := 45) C.1 dX3_takeFromTop_45 rfl rfl ?_
  exact rt_i C (Or.inl rfl) dX3_takeFromTop_46 hc hs ⟨_, rfl, k0⟩

theorem clX3_takeFromTop_39 {X : CX} {d0 mc0 ms0 d mc ms cells slots : Nat} {pp : Int32 → Hp → Prop} {h : Hp} {ls : List (Option Value)} {rest : List Value} {a0 a1 : Value} {post : Int32 → Hp → Prop} (C : CmI X mX3_takeFromTop d0 mc0 ms0 pp) (hct : CtI mJ9_max_7cf53 d mc ms [a0, a1] h post) (hdd : d < d0) (hmc : cells + mc ≤ mc0) (hms : slots + ms ≤ ms0) (hcat : (rest.map fun v => v.category).sum ≤ 8) (kk : ∀ r h', post r h' → At X (cells + mc) (slots + ms) 42 ls (.int r :: rest) h') : At X cells slots 39 ls (a1 :: a0 :: rest) h :=
  st_callS (pc := 39) (M := mJ9_max_7cf53) (idx := 57) (As := [a0, a1]) C.1 C.2.2.1 C.2.2.2.2.2.2 (n := 2) ⟨wM_RX3_57, wC_J9_max_7cf53, wI_RJ9, by decide +kernel, by decide⟩ wT_J9_max_7cf53 dX3_takeFromTop_39 rfl hdd hcat hct hmc hms (fun v h2 hp => by obtain ⟨r, rfl, hp⟩ := hp; exact kk r h2 hp)
theorem sgX3_release_0 {X : CX} {d mc ms cells slots : Nat} {pp : Hp → Prop} {h : Hp} {t : Nat} {x1 : Int32} {x2 : Int32}  (C : CmV X mX3_release d mc ms pp)  (k0 : x2 ≤ 64 → At X cells slots 16 [some (va_rf (some t)), some (.int x1), some (.int x2)] [va_rf (some t)] h) (k1 : ¬ x2 ≤ 64 → At X cells slots 9 [some (va_rf (some t)), some (.int x1), some (.int x2)] [.int x2, .int x1, va_rf (some t)] h) : At X cells slots 0 [some (va_rf (some t)), some (.int x1), some (.int x2)] [] h := by
  refine st_iload_n (pc := 0) C.1 dX3_release_0 rfl rfl ?_
  refine st_bipush (pc := 1) (v := 64) C.1 dX3_release_1 (by decide) ?_
  refine st_icmp_le (pc := 3) (tgt := 15) C.1 dX3_release_3 (by decide) (fun c0 => ?_) (fun c0 => ?_)
  · refine st_aload_n (pc := 15) C.1 (some t) dX3_release_15 rfl rfl ?_
    exact (k0 c0)
  · refine st_aload_n (pc := 6) C.1 (some t) dX3_release_6 rfl rfl ?_
    refine st_iload_n (pc := 7) C.1 dX3_release_7 rfl rfl ?_
    refine st_iload_n (pc := 8) C.1 dX3_release_8 rfl rfl ?_
    exact (k1 c0)

theorem sgX3_release_12 {X : CX} {d mc ms cells slots : Nat} {pp : Hp → Prop} {h : Hp} {t : Nat} {x1 : Int32} {x2 : Int32}  (C : CmV X mX3_release d mc ms pp) (hc : cells ≤ mc) (hs : slots ≤ ms)  (k0 : pp h) : At X cells slots 12 [some (va_rf (some t)), some (.int x1), some (.int x2)] [] h := by
  refine st_goto (pc := 12) (tgt := 28) C.1 dX3_release_12 (by decide) ?_
  exact rt_v C rfl dX3_release_28 hc hs ⟨rfl, k0⟩

theorem sgX3_release_19 {X : CX} {d mc ms cells slots : Nat} {pp : Hp → Prop} {h : Hp} {t : Nat} {x1 : Int32} {x2 : Int32} {p0 : Option Nat} {p1 : Option Nat}  (C : CmV X mX3_release d mc ms pp)  (k0 : At X cells slots 22 [some (va_rf (some t)), some (.int x1), some (.int x2)] [.int x2, .int x1, va_rf p0, va_rf p0, va_rf p1] h) : At X cells slots 19 [some (va_rf (some t)), some (.int x1), some (.int x2)] [va_rf p0, va_rf p1] h := by
  refine st_dup (pc := 19) C.1 dX3_release_19 (rf_cat p0) ?_
  refine st_iload_n (pc := 20) C.1 dX3_release_20 rfl rfl ?_
  refine st_iload_n (pc := 21) C.1 dX3_release_21 rfl rfl ?_
  exact k0

theorem sgX3_release_25 {X : CX} {d mc ms cells slots : Nat} {pp : Hp → Prop} {h : Hp} {t : Nat} {x1 : Int32} {x2 : Int32} {p0 : Option Nat} {p1 : Option Nat}  (C : CmV X mX3_release d mc ms pp)  (k0 : At X cells slots 25 [some (va_rf (some t)), some (.int x1), some (.int x2)] [va_rf p0, va_rf p1] h) : At X cells slots 25 [some (va_rf (some t)), some (.int x1), some (.int x2)] [va_rf p0, va_rf p1] h := by
  exact k0

theorem sgX3_release_28 {X : CX} {d mc ms cells slots : Nat} {pp : Hp → Prop} {h : Hp} {t : Nat} {x1 : Int32} {x2 : Int32}  (C : CmV X mX3_release d mc ms pp) (hc : cells ≤ mc) (hs : slots ≤ ms)  (k0 : pp h) : At X cells slots 28 [some (va_rf (some t)), some (.int x1), some (.int x2)] [] h := by
  exact rt_v C rfl dX3_release_28 hc hs ⟨rfl, k0⟩

theorem clX3_release_9 {X : CX} {d0 mc0 ms0 d mc ms cells slots : Nat} {pp : Hp → Prop} {h : Hp} {ls : List (Option Value)} {rest : List Value} {b : Nat} {a0 a1 : Value} {post : Hp → Prop} (C : CmV X mX3_release d0 mc0 ms0 pp) (hct : CtV mX3_releaseGreat d mc ms [va_rf (some b), a0, a1] h post) (hK : h.K b = 4) (hdd : d < d0) (hmc : cells + mc ≤ mc0) (hms : slots + ms ≤ ms0) (hcat : (rest.map fun v => v.category).sum ≤ 8) (kk : ∀ h', post h' → At X (cells + mc) (slots + ms) 12 ls rest h') : At X cells slots 9 ls (a1 :: a0 :: va_rf (some b) :: rest) h :=
  st_callV (pc := 9) (M := mX3_releaseGreat) (idx := 76) (As := [a0, a1]) C.1 C.2.2.1 C.2.2.2.2.2.2 ⟨wM_RX3_76, wC_X3_releaseGreat, wI_RX3, by decide +kernel, by decide⟩ wV_X3_releaseGreat wS_X3_releaseGreat (ci := 3) (n := 2) rfl rfl (by decide) dX3_release_9 rfl hdd hcat hK hct hmc hms (fun v h2 hp => by obtain ⟨rfl, hp⟩ := hp; exact kk h2 hp)
theorem nwX3_release_16 {X : CX} {d0 mc0 ms0 cells slots : Nat} {pp : Hp → Prop} {h : Hp} {ls : List (Option Value)} {st : List Value} (C : CmV X mX3_release d0 mc0 ms0 pp) (hmc : cells + 1 ≤ mc0) (hms : slots + 3 ≤ ms0) (kk : ∀ q, h.K q = 0 → At X (cells + 1) (slots + 3) 19 ls (va_rf (some q) :: st) (h.nw q 3 0)) : At X cells slots 16 ls st h :=
  st_new (pc := 16) (ci := 2) C.1 rfl gX2 tyX2_ok wK_RX3_15 wN_RX2 wI_RX2 dX3_release_16 (by decide) (by decide) (by rw [C.2.2.1]; exact hmc) (by rw [C.2.2.1]; exact hms) kk
theorem clX3_release_22 {X : CX} {d0 mc0 ms0 d mc ms cells slots : Nat} {pp : Hp → Prop} {h : Hp} {ls : List (Option Value)} {rest : List Value} {b : Nat} {a0 a1 : Value} {post : Hp → Prop} (C : CmV X mX3_release d0 mc0 ms0 pp) (hct : CtV mX2_init d mc ms [va_rf (some b), a0, a1] h post) (hdd : d < d0) (hmc : cells + mc ≤ mc0) (hms : slots + ms ≤ ms0) (hcat : (rest.map fun v => v.category).sum ≤ 8) (kk : ∀ h', post h' → At X (cells + mc) (slots + ms) 25 ls rest h') : At X cells slots 22 ls (a1 :: a0 :: va_rf (some b) :: rest) h :=
  st_callI (pc := 22) (M := mX2_init) (idx := 21) (As := [a0, a1]) C.1 C.2.2.1 C.2.2.2.2.2.2 rfl (n := 2) ⟨wM_RX3_21, wC_X2_init, wI_RX2, by decide +kernel, by decide⟩ wV_X2_init rfl dX3_release_22 rfl hdd hcat hct hmc hms (fun v h2 hp => by obtain ⟨rfl, hp⟩ := hp; exact kk h2 hp)
theorem clX3_release_25 {X : CX} {d0 mc0 ms0 d mc ms cells slots : Nat} {pp : Hp → Prop} {h : Hp} {ls : List (Option Value)} {rest : List Value} {b : Nat} {a0 : Value} {post : Hp → Prop} (C : CmV X mX3_release d0 mc0 ms0 pp) (hct : CtV mX3_putOnPile d mc ms [va_rf (some b), a0] h post) (hK : h.K b = 4) (hdd : d < d0) (hmc : cells + mc ≤ mc0) (hms : slots + ms ≤ ms0) (hcat : (rest.map fun v => v.category).sum ≤ 8) (kk : ∀ h', post h' → At X (cells + mc) (slots + ms) 28 ls rest h') : At X cells slots 25 ls (a0 :: va_rf (some b) :: rest) h :=
  st_callV (pc := 25) (M := mX3_putOnPile) (idx := 79) (As := [a0]) C.1 C.2.2.1 C.2.2.2.2.2.2 ⟨wM_RX3_79, wC_X3_putOnPile, wI_RX3, by decide +kernel, by decide⟩ wV_X3_putOnPile wS_X3_putOnPile (ci := 3) (n := 1) rfl rfl (by decide) dX3_release_25 rfl hdd hcat hK hct hmc hms (fun v h2 hp => by obtain ⟨rfl, hp⟩ := hp; exact kk h2 hp)
theorem sgX3_putOnPile_0 {X : CX} {d mc ms cells slots : Nat} {pp : Hp → Prop} {h : Hp} {t : Nat} {b1 : Nat} {r0 : Nat} (C : CmV X mX3_putOnPile d mc ms pp) (hc : cells ≤ mc) (hs : slots ≤ ms) (h0 : h.K b1 = 3) (h1 : h.K t = 4) (h2 : h.R 301 t = some r0) (h3 : h.K r0 = 14) (h4 : ¬ (h.I 201 b1) / 4 < 1 → (h.I 201 b1) / 4 < nI (h.N r0) → vp_in ((h.I 201 b1) / 4) (h.N r0)) (h5 : ¬ (h.I 201 b1) / 4 < 1 → (h.I 201 b1) / 4 < nI (h.N r0) → ∀ vv, some b1 = some vv → h.K vv = 3) (k0 : (h.I 201 b1) / 4 < 1 → pp h) (k1 : ¬ (h.I 201 b1) / 4 < 1 → (h.I 201 b1) / 4 < nI (h.N r0) → pp ((((h.sR 202 b1 (h.AR r0 (((h.I 201 b1) / 4).toNatClampNeg))).sAR r0 (((h.I 201 b1) / 4).toNatClampNeg) (some b1)).sI 305 t ((h.I 305 t) + 1)).sI 306 t ((h.I 306 t) + (h.I 201 b1)))) (k2 : ¬ (h.I 201 b1) / 4 < 1 → ¬ (h.I 201 b1) / 4 < nI (h.N r0) → pp h) : At X cells slots 0 [some (va_rf (some t)), some (va_rf (some b1)), none] [] h := by
  refine st_aload_n (pc := 0) C.1 (some b1) dX3_putOnPile_0 rfl rfl ?_
  refine gI_RX3_45 (pc := 1) C.1 (h.I 201 b1) dX3_putOnPile_1 h0 rfl ?_
  refine st_iconst (pc := 4) (v := 4) C.1 dX3_putOnPile_4 (by decide) ?_
  refine st_idiv (pc := 5) C.1 dX3_putOnPile_5 (by decide) ?_
  refine sv_istore_n (pc := 6) (i := 2) C.1 [some (va_rf (some t)), some (va_rf (some b1)), some (.int ((h.I 201 b1) / 4))] dX3_putOnPile_6 rfl (Nat.le_of_ble_eq_true rfl) (by rw [C.2.1]; exact Nat.le_of_ble_eq_true rfl) rfl rfl ?_
  refine st_iload_n (pc := 7) C.1 dX3_putOnPile_7 rfl rfl ?_
  refine st_iconst (pc := 8) (v := 1) C.1 dX3_putOnPile_8 (by decide) ?_
  refine st_icmp_lt (pc := 9) (tgt := 21) C.1 dX3_putOnPile_9 (by decide) (fun c0 => ?_) (fun c0 => ?_)
  · exact rt_v C rfl dX3_putOnPile_21 hc hs ⟨rfl, (k0 c0)⟩
  · refine st_iload_n (pc := 12) C.1 dX3_putOnPile_12 rfl rfl ?_
    refine st_aload_n (pc := 13) C.1 (some t) dX3_putOnPile_13 rfl rfl ?_
    refine gR_RX3_17 (pc := 14) C.1 (some r0) dX3_putOnPile_14 h1 h2 ?_
    refine st_alen (pc := 17) C.1 dX3_putOnPile_17 (Or.inr (Or.inr (Or.inr (Or.inl h3)))) ?_
    refine st_icmp_lt (pc := 18) (tgt := 22) C.1 dX3_putOnPile_18 (by decide) (fun c1 => ?_) (fun c1 => ?_)
    · refine st_aload_n (pc := 22) C.1 (some b1) dX3_putOnPile_22 rfl rfl ?_
      refine st_aload_n (pc := 23) C.1 (some t) dX3_putOnPile_23 rfl rfl ?_
      refine gR_RX3_17 (pc := 24) C.1 (some r0) dX3_putOnPile_24 h1 h2 ?_
      refine st_iload_n (pc := 27) C.1 dX3_putOnPile_27 rfl rfl ?_
      refine sv_aaload (pc := 28) C.1 (h.AR r0 (((h.I 201 b1) / 4).toNatClampNeg)) dX3_putOnPile_28 (Or.inr h3) (h4 c0 c1) rfl ?_
      refine pR_RX3_63 (pc := 29) C.1 (h.AR r0 (((h.I 201 b1) / 4).toNatClampNeg)) dX3_putOnPile_29 h0 ?_
      refine st_aload_n (pc := 32) C.1 (some t) dX3_putOnPile_32 rfl rfl ?_
      refine gR_RX3_17 (pc := 33) C.1 (some r0) dX3_putOnPile_33 h1 h2 ?_
      refine st_iload_n (pc := 36) C.1 dX3_putOnPile_36 rfl rfl ?_
      refine st_aload_n (pc := 37) C.1 (some b1) dX3_putOnPile_37 rfl rfl ?_
      refine st_aastore (pc := 38) C.1 (some b1) dX3_putOnPile_38 (Or.inr ⟨h3, (h5 c0 c1)⟩) (h4 c0 c1) ?_
      refine st_aload_n (pc := 39) C.1 (some t) dX3_putOnPile_39 rfl rfl ?_
      refine st_dup (pc := 40) C.1 dX3_putOnPile_40 (rf_cat (some t)) ?_
      refine gI_RX3_66 (pc := 41) C.1 (h.I 305 t) dX3_putOnPile_41 h1 rfl ?_
      refine st_iconst (pc := 44) (v := 1) C.1 dX3_putOnPile_44 (by decide) ?_
      refine st_iadd (pc := 45) C.1 dX3_putOnPile_45 ?_
      refine pI_RX3_66 (pc := 46) C.1 dX3_putOnPile_46 h1 ?_
      refine st_aload_n (pc := 49) C.1 (some t) dX3_putOnPile_49 rfl rfl ?_
      refine st_dup (pc := 50) C.1 dX3_putOnPile_50 (rf_cat (some t)) ?_
      refine gI_RX3_69 (pc := 51) C.1 (h.I 306 t) dX3_putOnPile_51 h1 rfl ?_
      refine st_aload_n (pc := 54) C.1 (some b1) dX3_putOnPile_54 rfl rfl ?_
      refine gI_RX3_45 (pc := 55) C.1 (h.I 201 b1) dX3_putOnPile_55 h0 rfl ?_
      refine st_iadd (pc := 58) C.1 dX3_putOnPile_58 ?_
      refine pI_RX3_69 (pc := 59) C.1 dX3_putOnPile_59 h1 ?_
      exact rt_v C rfl dX3_putOnPile_62 hc hs ⟨rfl, (k1 c0 c1)⟩
    · exact rt_v C rfl dX3_putOnPile_21 hc hs ⟨rfl, (k2 c0 c1)⟩

theorem sgX3_releaseGreat_0 {X : CX} {d mc ms cells slots : Nat} {pp : Hp → Prop} {h : Hp} {t : Nat} {x1 : Int32} {x2 : Int32} {r0 : Nat} (C : CmV X mX3_releaseGreat d mc ms pp) (h0 : h.K t = 4) (h1 : h.R 302 t = some r0) (h2 : h.K r0 = 3) (k0 : At X cells slots 16 [some (va_rf (some t)), some (.int x1), some (.int x2), some (.int x1), some (.int (x1 + x2)), some (va_rf (h.R 202 r0))] [] h) : At X cells slots 0 [some (va_rf (some t)), some (.int x1), some (.int x2), none, none, none] [] h := by
  refine st_iload_n (pc := 0) C.1 dX3_releaseGreat_0 rfl rfl ?_
  refine sv_istore_n (pc := 1) (i := 3) C.1 [some (va_rf (some t)), some (.int x1), some (.int x2), some (.int x1), none, none] dX3_releaseGreat_1 rfl (Nat.le_of_ble_eq_true rfl) (by rw [C.2.1]; exact Nat.le_of_ble_eq_true rfl) rfl rfl ?_
  refine st_iload_n (pc := 2) C.1 dX3_releaseGreat_2 rfl rfl ?_
  refine st_iload_n (pc := 3) C.1 dX3_releaseGreat_3 rfl rfl ?_
  refine st_iadd (pc := 4) C.1 dX3_releaseGreat_4 ?_
  refine sv_istore (pc := 5) (i := 4) C.1 [some (va_rf (some t)), some (.int x1), some (.int x2), some (.int x1), some (.int (x1 + x2)), none] dX3_releaseGreat_5 (Nat.le_of_ble_eq_true rfl) (by rw [C.2.1]; exact Nat.le_of_ble_eq_true rfl) rfl rfl ?_
  refine st_aload_n (pc := 7) C.1 (some t) dX3_releaseGreat_7 rfl rfl ?_
  refine gR_RX3_24 (pc := 8) C.1 (some r0) dX3_releaseGreat_8 h0 h1 ?_
  refine gR_RX3_63 (pc := 11) C.1 (h.R 202 r0) dX3_releaseGreat_11 h2 rfl ?_
  refine sv_astore (pc := 14) (i := 5) C.1 [some (va_rf (some t)), some (.int x1), some (.int x2), some (.int x1), some (.int (x1 + x2)), some (va_rf (h.R 202 r0))] (h.R 202 r0) dX3_releaseGreat_14 (Nat.le_of_ble_eq_true rfl) (by rw [C.2.1]; exact Nat.le_of_ble_eq_true rfl) rfl rfl ?_
  exact k0

theorem sgX3_releaseGreat_16 {X : CX} {d mc ms cells slots : Nat} {pp : Hp → Prop} {h : Hp} {t : Nat} {x1 : Int32} {x2 : Int32} {x3 : Int32} {x4 : Int32} {o5 : Option Nat}  (C : CmV X mX3_releaseGreat d mc ms pp) (hc : cells ≤ mc) (hs : slots ≤ ms) (h0 : h.K t = 4) (k0 : o5 = none → ¬ x4 = h.I 303 t → At X cells slots 107 [some (va_rf (some t)), some (.int x1), some (.int x2), some (.int x3), some (.int x4), some (va_rf none)] [va_rf (some t)] h) (k1 : o5 = none → x4 = h.I 303 t → pp (h.sI 303 t x3)) (k2 : ∀ z0 : Nat, o5 = some z0 → At X cells slots 23 [some (va_rf (some t)), some (.int x1), some (.int x2), some (.int x3), some (.int x4), some (va_rf (some z0))] [va_rf (some z0)] h) : At X cells slots 16 [some (va_rf (some t)), some (.int x1), some (.int x2), some (.int x3), some (.int x4), some (va_rf o5)] [] h := by
  refine st_aload (pc := 16) C.1 o5 dX3_releaseGreat_16 rfl ?_
  refine st_ifnull (pc := 18) (o := o5) (tgt := 89) C.1 dX3_releaseGreat_18 (by decide) (fun c0 => ?_) (fun z0 c0 => ?_)
  · try rw [c0]
    refine st_iload (pc := 89) C.1 dX3_releaseGreat_89 rfl ?_
    refine st_aload_n (pc := 91) C.1 (some t) dX3_releaseGreat_91 rfl rfl ?_
    refine gI_RX3_28 (pc := 92) C.1 (h.I 303 t) dX3_releaseGreat_92 h0 rfl ?_
    refine st_icmp_ne (pc := 95) (tgt := 106) C.1 dX3_releaseGreat_95 (by decide) (fun c1 => ?_) (fun c1 => ?_)
    · refine st_aload_n (pc := 106) C.1 (some t) dX3_releaseGreat_106 rfl rfl ?_
      exact (k0 c0 c1)
    · refine st_aload_n (pc := 98) C.1 (some t) dX3_releaseGreat_98 rfl rfl ?_
      refine st_iload_n (pc := 99) C.1 dX3_releaseGreat_99 rfl rfl ?_
      refine pI_RX3_28 (pc := 100) C.1 dX3_releaseGreat_100 h0 ?_
      refine st_goto (pc := 103) (tgt := 122) C.1 dX3_releaseGreat_103 (by decide) ?_
      exact rt_v C rfl dX3_releaseGreat_122 hc hs ⟨rfl, (k1 c0 c1)⟩
  · try rw [c0]
    refine st_aload (pc := 21) C.1 (some z0) dX3_releaseGreat_21 rfl ?_
    exact (k2 z0 c0)

theorem sgX3_releaseGreat_26 {X : CX} {d mc ms cells slots : Nat} {pp : Hp → Prop} {h : Hp} {t : Nat} {x1 : Int32} {x2 : Int32} {x3 : Int32} {x4 : Int32} {b5 : Nat} {u0 : Int32}  (C : CmV X mX3_releaseGreat d mc ms pp) (h0 : h.K b5 = 3) (k0 : u0 = x1 → At X cells slots 47 [some (va_rf (some t)), some (.int x1), some (.int x2), some (.int x3), some (.int x4), some (va_rf (some b5))] [.int (h.I 200 b5), .int x3] h) (k1 : ¬ u0 = x1 → ¬ h.I 200 b5 = x1 + x2 → At X cells slots 16 [some (va_rf (some t)), some (.int x1), some (.int x2), some (.int x3), some (.int x4), some (va_rf (h.R 202 b5))] [] h) (k2 : ¬ u0 = x1 → h.I 200 b5 = x1 + x2 → At X cells slots 47 [some (va_rf (some t)), some (.int x1), some (.int x2), some (.int x3), some (.int x4), some (va_rf (some b5))] [.int (h.I 200 b5), .int x3] h) : At X cells slots 26 [some (va_rf (some t)), some (.int x1), some (.int x2), some (.int x3), some (.int x4), some (va_rf (some b5))] [.int u0] h := by
  refine st_iload_n (pc := 26) C.1 dX3_releaseGreat_26 rfl rfl ?_
  refine st_icmp_eq (pc := 27) (tgt := 41) C.1 dX3_releaseGreat_27 (by decide) (fun c0 => ?_) (fun c0 => ?_)
  · refine st_iload_n (pc := 41) C.1 dX3_releaseGreat_41 rfl rfl ?_
    refine st_aload (pc := 42) C.1 (some b5) dX3_releaseGreat_42 rfl ?_
    refine gI_RX3_51 (pc := 44) C.1 (h.I 200 b5) dX3_releaseGreat_44 h0 rfl ?_
    exact (k0 c0)
  · refine st_aload (pc := 30) C.1 (some b5) dX3_releaseGreat_30 rfl ?_
    refine gI_RX3_51 (pc := 32) C.1 (h.I 200 b5) dX3_releaseGreat_32 h0 rfl ?_
    refine st_iload_n (pc := 35) C.1 dX3_releaseGreat_35 rfl rfl ?_
    refine st_iload_n (pc := 36) C.1 dX3_releaseGreat_36 rfl rfl ?_
    refine st_iadd (pc := 37) C.1 dX3_releaseGreat_37 ?_
    refine st_icmp_ne (pc := 38) (tgt := 79) C.1 dX3_releaseGreat_38 (by decide) (fun c1 => ?_) (fun c1 => ?_)
    · refine st_aload (pc := 79) C.1 (some b5) dX3_releaseGreat_79 rfl ?_
      refine gR_RX3_63 (pc := 81) C.1 (h.R 202 b5) dX3_releaseGreat_81 h0 rfl ?_
      refine sv_astore (pc := 84) (i := 5) C.1 [some (va_rf (some t)), some (.int x1), some (.int x2), some (.int x3), some (.int x4), some (va_rf (h.R 202 b5))] (h.R 202 b5) dX3_releaseGreat_84 (Nat.le_of_ble_eq_true rfl) (by rw [C.2.1]; exact Nat.le_of_ble_eq_true rfl) rfl rfl ?_
      refine st_goto (pc := 86) (tgt := 16) C.1 dX3_releaseGreat_86 (by decide) ?_
      exact (k1 c0 c1)
    · refine st_iload_n (pc := 41) C.1 dX3_releaseGreat_41 rfl rfl ?_
      refine st_aload (pc := 42) C.1 (some b5) dX3_releaseGreat_42 rfl ?_
      refine gI_RX3_51 (pc := 44) C.1 (h.I 200 b5) dX3_releaseGreat_44 h0 rfl ?_
      exact (k2 c0 c1)

theorem sgX3_releaseGreat_50 {X : CX} {d mc ms cells slots : Nat} {pp : Hp → Prop} {h : Hp} {t : Nat} {x1 : Int32} {x2 : Int32} {x3 : Int32} {x4 : Int32} {o5 : Option Nat} {u0 : Int32}  (C : CmV X mX3_releaseGreat d mc ms pp)  (k0 : At X cells slots 55 [some (va_rf (some t)), some (.int x1), some (.int x2), some (.int u0), some (.int x4), some (va_rf o5)] [va_rf o5, .int x4] h) : At X cells slots 50 [some (va_rf (some t)), some (.int x1), some (.int x2), some (.int x3), some (.int x4), some (va_rf o5)] [.int u0] h := by
  refine sv_istore_n (pc := 50) (i := 3) C.1 [some (va_rf (some t)), some (.int x1), some (.int x2), some (.int u0), some (.int x4), some (va_rf o5)] dX3_releaseGreat_50 rfl (Nat.le_of_ble_eq_true rfl) (by rw [C.2.1]; exact Nat.le_of_ble_eq_true rfl) rfl rfl ?_
  refine st_iload (pc := 51) C.1 dX3_releaseGreat_51 rfl ?_
  refine st_aload (pc := 53) C.1 o5 dX3_releaseGreat_53 rfl ?_
  exact k0

theorem sgX3_releaseGreat_58 {X : CX} {d mc ms cells slots : Nat} {pp : Hp → Prop} {h : Hp} {t : Nat} {x1 : Int32} {x2 : Int32} {x3 : Int32} {x4 : Int32} {o5 : Option Nat} {u0 : Int32} {u1 : Int32}  (C : CmV X mX3_releaseGreat d mc ms pp)  (k0 : At X cells slots 58 [some (va_rf (some t)), some (.int x1), some (.int x2), some (.int x3), some (.int x4), some (va_rf o5)] [.int u0, .int u1] h) : At X cells slots 58 [some (va_rf (some t)), some (.int x1), some (.int x2), some (.int x3), some (.int x4), some (va_rf o5)] [.int u0, .int u1] h := by
  exact k0

theorem sgX3_releaseGreat_61 {X : CX} {d mc ms cells slots : Nat} {pp : Hp → Prop} {h : Hp} {t : Nat} {x1 : Int32} {x2 : Int32} {x3 : Int32} {x4 : Int32} {o5 : Option Nat} {u0 : Int32}  (C : CmV X mX3_releaseGreat d mc ms pp) (h0 : h.K t = 4) (k0 : At X cells slots 76 [some (va_rf (some t)), some (.int x1), some (.int x2), some (.int x3), some (.int u0), some (va_rf o5)] [va_rf o5, va_rf (some t)] (h.sI 308 t ((h.I 308 t) + 1))) : At X cells slots 61 [some (va_rf (some t)), some (.int x1), some (.int x2), some (.int x3), some (.int x4), some (va_rf o5)] [.int u0] h := by
  refine sv_istore (pc := 61) (i := 4) C.1 [some (va_rf (some t)), some (.int x1), some (.int x2), some (.int x3), some (.int u0), some (va_rf o5)] dX3_releaseGreat_61 (Nat.le_of_ble_eq_true rfl) (by rw [C.2.1]; exact Nat.le_of_ble_eq_true rfl) rfl rfl ?_
  refine st_aload_n (pc := 63) C.1 (some t) dX3_releaseGreat_63 rfl rfl ?_
  refine st_dup (pc := 64) C.1 dX3_releaseGreat_64 (rf_cat (some t)) ?_
  refine gI_RX3_88 (pc := 65) C.1 (h.I 308 t) dX3_releaseGreat_65 h0 rfl ?_
  refine st_iconst (pc := 68) (v := 1) C.1 dX3_releaseGreat_68 (by decide) ?_
  refine st_iadd (pc := 69) C.1 dX3_releaseGreat_69 ?_
  refine pI_RX3_88 (pc := 70) C.1 dX3_releaseGreat_70 h0 ?_
  refine st_aload_n (pc := 73) C.1 (some t) dX3_releaseGreat_73 rfl rfl ?_
  refine st_aload (pc := 74) C.1 o5 dX3_releaseGreat_74 rfl ?_
  exact k0

theorem sgX3_releaseGreat_79 {X : CX} {d mc ms cells slots : Nat} {pp : Hp → Prop} {h : Hp} {t : Nat} {x1 : Int32} {x2 : Int32} {x3 : Int32} {x4 : Int32} {b5 : Nat}  (C : CmV X mX3_releaseGreat d mc ms pp) (h0 : h.K b5 = 3) (k0 : At X cells slots 16 [some (va_rf (some t)), some (.int x1), some (.int x2), some (.int x3), some (.int x4), some (va_rf (h.R 202 b5))] [] h) : At X cells slots 79 [some (va_rf (some t)), some (.int x1), some (.int x2), some (.int x3), some (.int x4), some (va_rf (some b5))] [] h := by
  refine st_aload (pc := 79) C.1 (some b5) dX3_releaseGreat_79 rfl ?_
  refine gR_RX3_63 (pc := 81) C.1 (h.R 202 b5) dX3_releaseGreat_81 h0 rfl ?_
  refine sv_astore (pc := 84) (i := 5) C.1 [some (va_rf (some t)), some (.int x1), some (.int x2), some (.int x3), some (.int x4), some (va_rf (h.R 202 b5))] (h.R 202 b5) dX3_releaseGreat_84 (Nat.le_of_ble_eq_true rfl) (by rw [C.2.1]; exact Nat.le_of_ble_eq_true rfl) rfl rfl ?_
  refine st_goto (pc := 86) (tgt := 16) C.1 dX3_releaseGreat_86 (by decide) ?_
  exact k0

theorem sgX3_releaseGreat_110 {X : CX} {d mc ms cells slots : Nat} {pp : Hp → Prop} {h : Hp} {t : Nat} {x1 : Int32} {x2 : Int32} {x3 : Int32} {x4 : Int32} {o5 : Option Nat} {p0 : Option Nat} {p1 : Option Nat}  (C : CmV X mX3_releaseGreat d mc ms pp)  (k0 : At X cells slots 116 [some (va_rf (some t)), some (.int x1), some (.int x2), some (.int x3), some (.int x4), some (va_rf o5)] [.int (x4 - x3), .int x3, va_rf p0, va_rf p0, va_rf p1] h) : At X cells slots 110 [some (va_rf (some t)), some (.int x1), some (.int x2), some (.int x3), some (.int x4), some (va_rf o5)] [va_rf p0, va_rf p1] h := by
  refine st_dup (pc := 110) C.1 dX3_releaseGreat_110 (rf_cat p0) ?_
  refine st_iload_n (pc := 111) C.1 dX3_releaseGreat_111 rfl rfl ?_
  refine st_iload (pc := 112) C.1 dX3_releaseGreat_112 rfl ?_
  refine st_iload_n (pc := 114) C.1 dX3_releaseGreat_114 rfl rfl ?_
  refine st_isub (pc := 115) C.1 dX3_releaseGreat_115 ?_
  exact k0

theorem sgX3_releaseGreat_119 {X : CX} {d mc ms cells slots : Nat} {pp : Hp → Prop} {h : Hp} {t : Nat} {x1 : Int32} {x2 : Int32} {x3 : Int32} {x4 : Int32} {o5 : Option Nat} {p0 : Option Nat} {p1 : Option Nat}  (C : CmV X mX3_releaseGreat d mc ms pp)  (k0 : At X cells slots 119 [some (va_rf (some t)), some (.int x1), some (.int x2), some (.int x3), some (.int x4), some (va_rf o5)] [va_rf p0, va_rf p1] h) : At X cells slots 119 [some (va_rf (some t)), some (.int x1), some (.int x2), some (.int x3), some (.int x4), some (va_rf o5)] [va_rf p0, va_rf p1] h := by
  exact k0

theorem sgX3_releaseGreat_122 {X : CX} {d mc ms cells slots : Nat} {pp : Hp → Prop} {h : Hp} {t : Nat} {x1 : Int32} {x2 : Int32} {x3 : Int32} {x4 : Int32} {o5 : Option Nat}  (C : CmV X mX3_releaseGreat d mc ms pp) (hc : cells ≤ mc) (hs : slots ≤ ms)  (k0 : pp h) : At X cells slots 122 [some (va_rf (some t)), some (.int x1), some (.int x2), some (.int x3), some (.int x4), some (va_rf o5)] [] h := by
  exact rt_v C rfl dX3_releaseGreat_122 hc hs ⟨rfl, k0⟩

theorem clX3_releaseGreat_23 {X : CX} {d0 mc0 ms0 d mc ms cells slots : Nat} {pp : Hp → Prop} {h : Hp} {ls : List (Option Value)} {rest : List Value} {b : Nat} {post : Int32 → Hp → Prop} (C : CmV X mX3_releaseGreat d0 mc0 ms0 pp) (hct : CtI mX2_end d mc ms [va_rf (some b)] h post) (hK : h.K b = 3) (hdd : d < d0) (hmc : cells + mc ≤ mc0) (hms : slots + ms ≤ ms0) (hcat : (rest.map fun v => v.category).sum ≤ 8) (kk : ∀ r h', post r h' → At X (cells + mc) (slots + ms) 26 ls (.int r :: rest) h') : At X cells slots 23 ls (va_rf (some b) :: rest) h :=
  st_callV (pc := 23) (M := mX2_end) (idx := 82) (As := []) C.1 C.2.2.1 C.2.2.2.2.2.2 ⟨wM_RX3_82, wC_X2_end, wI_RX2, by decide +kernel, by decide⟩ wV_X2_end wS_X2_end (ci := 2) (n := 0) rfl rfl (by decide) dX3_releaseGreat_23 rfl hdd hcat hK hct hmc hms (fun v h2 hp => by obtain ⟨r, rfl, hp⟩ := hp; exact kk r h2 hp)
theorem clX3_releaseGreat_47 {X : CX} {d0 mc0 ms0 d mc ms cells slots : Nat} {pp : Hp → Prop} {h : Hp} {ls : List (Option Value)} {rest : List Value} {a0 a1 : Value} {post : Int32 → Hp → Prop} (C : CmV X mX3_releaseGreat d0 mc0 ms0 pp) (hct : CtI mJ9_min_7cf53 d mc ms [a0, a1] h post) (hdd : d < d0) (hmc : cells + mc ≤ mc0) (hms : slots + ms ≤ ms0) (hcat : (rest.map fun v => v.category).sum ≤ 8) (kk : ∀ r h', post r h' → At X (cells + mc) (slots + ms) 50 ls (.int r :: rest) h') : At X cells slots 47 ls (a1 :: a0 :: rest) h :=
  st_callS (pc := 47) (M := mJ9_min_7cf53) (idx := 85) (As := [a0, a1]) C.1 C.2.2.1 C.2.2.2.2.2.2 (n := 2) ⟨wM_RX3_85, wC_J9_min_7cf53, wI_RJ9, by decide +kernel, by decide⟩ wT_J9_min_7cf53 dX3_releaseGreat_47 rfl hdd hcat hct hmc hms (fun v h2 hp => by obtain ⟨r, rfl, hp⟩ := hp; exact kk r h2 hp)
theorem clX3_releaseGreat_55 {X : CX} {d0 mc0 ms0 d mc ms cells slots : Nat} {pp : Hp → Prop} {h : Hp} {ls : List (Option Value)} {rest : List Value} {b : Nat} {post : Int32 → Hp → Prop} (C : CmV X mX3_releaseGreat d0 mc0 ms0 pp) (hct : CtI mX2_end d mc ms [va_rf (some b)] h post) (hK : h.K b = 3) (hdd : d < d0) (hmc : cells + mc ≤ mc0) (hms : slots + ms ≤ ms0) (hcat : (rest.map fun v => v.category).sum ≤ 8) (kk : ∀ r h', post r h' → At X (cells + mc) (slots + ms) 58 ls (.int r :: rest) h') : At X cells slots 55 ls (va_rf (some b) :: rest) h :=
  st_callV (pc := 55) (M := mX2_end) (idx := 82) (As := []) C.1 C.2.2.1 C.2.2.2.2.2.2 ⟨wM_RX3_82, wC_X2_end, wI_RX2, by decide +kernel, by decide⟩ wV_X2_end wS_X2_end (ci := 2) (n := 0) rfl rfl (by decide) dX3_releaseGreat_55 rfl hdd hcat hK hct hmc hms (fun v h2 hp => by obtain ⟨r, rfl, hp⟩ := hp; exact kk r h2 hp)
theorem clX3_releaseGreat_58 {X : CX} {d0 mc0 ms0 d mc ms cells slots : Nat} {pp : Hp → Prop} {h : Hp} {ls : List (Option Value)} {rest : List Value} {a0 a1 : Value} {post : Int32 → Hp → Prop} (C : CmV X mX3_releaseGreat d0 mc0 ms0 pp) (hct : CtI mJ9_max_7cf53 d mc ms [a0, a1] h post) (hdd : d < d0) (hmc : cells + mc ≤ mc0) (hms : slots + ms ≤ ms0) (hcat : (rest.map fun v => v.category).sum ≤ 8) (kk : ∀ r h', post r h' → At X (cells + mc) (slots + ms) 61 ls (.int r :: rest) h') : At X cells slots 58 ls (a1 :: a0 :: rest) h :=
  st_callS (pc := 58) (M := mJ9_max_7cf53) (idx := 57) (As := [a0, a1]) C.1 C.2.2.1 C.2.2.2.2.2.2 (n := 2) ⟨wM_RX3_57, wC_J9_max_7cf53, wI_RJ9, by decide +kernel, by decide⟩ wT_J9_max_7cf53 dX3_releaseGreat_58 rfl hdd hcat hct hmc hms (fun v h2 hp => by obtain ⟨r, rfl, hp⟩ := hp; exact kk r h2 hp)
theorem clX3_releaseGreat_76 {X : CX} {d0 mc0 ms0 d mc ms cells slots : Nat} {pp : Hp → Prop} {h : Hp} {ls : List (Option Value)} {rest : List Value} {b : Nat} {a0 : Value} {post : Hp → Prop} (C : CmV X mX3_releaseGreat d0 mc0 ms0 pp) (hct : CtV mX3_unlinkGreat d mc ms [va_rf (some b), a0] h post) (hK : h.K b = 4) (hdd : d < d0) (hmc : cells + mc ≤ mc0) (hms : slots + ms ≤ ms0) (hcat : (rest.map fun v => v.category).sum ≤ 8) (kk : ∀ h', post h' → At X (cells + mc) (slots + ms) 79 ls rest h') : At X cells slots 76 ls (a0 :: va_rf (some b) :: rest) h :=
  st_callV (pc := 76) (M := mX3_unlinkGreat) (idx := 72) (As := [a0]) C.1 C.2.2.1 C.2.2.2.2.2.2 ⟨wM_RX3_72, wC_X3_unlinkGreat, wI_RX3, by decide +kernel, by decide⟩ wV_X3_unlinkGreat wS_X3_unlinkGreat (ci := 3) (n := 1) rfl rfl (by decide) dX3_releaseGreat_76 rfl hdd hcat hK hct hmc hms (fun v h2 hp => by obtain ⟨rfl, hp⟩ := hp; exact kk h2 hp)
theorem nwX3_releaseGreat_107 {X : CX} {d0 mc0 ms0 cells slots : Nat} {pp : Hp → Prop} {h : Hp} {ls : List (Option Value)} {st : List Value} (C : CmV X mX3_releaseGreat d0 mc0 ms0 pp) (hmc : cells + 1 ≤ mc0) (hms : slots + 3 ≤ ms0) (kk : ∀ q, h.K q = 0 → At X (cells + 1) (slots + 3) 110 ls (va_rf (some q) :: st) (h.nw q 3 0)) : At X cells slots 107 ls st h :=
  st_new (pc := 107) (ci := 2) C.1 rfl gX2 tyX2_ok wK_RX3_15 wN_RX2 wI_RX2 dX3_releaseGreat_107 (by decide) (by decide) (by rw [C.2.2.1]; exact hmc) (by rw [C.2.2.1]; exact hms) kk
theorem clX3_releaseGreat_116 {X : CX} {d0 mc0 ms0 d mc ms cells slots : Nat} {pp : Hp → Prop} {h : Hp} {ls : List (Option Value)} {rest : List Value} {b : Nat} {a0 a1 : Value} {post : Hp → Prop} (C : CmV X mX3_releaseGreat d0 mc0 ms0 pp) (hct : CtV mX2_init d mc ms [va_rf (some b), a0, a1] h post) (hdd : d < d0) (hmc : cells + mc ≤ mc0) (hms : slots + ms ≤ ms0) (hcat : (rest.map fun v => v.category).sum ≤ 8) (kk : ∀ h', post h' → At X (cells + mc) (slots + ms) 119 ls rest h') : At X cells slots 116 ls (a1 :: a0 :: va_rf (some b) :: rest) h :=
  st_callI (pc := 116) (M := mX2_init) (idx := 21) (As := [a0, a1]) C.1 C.2.2.1 C.2.2.2.2.2.2 rfl (n := 2) ⟨wM_RX3_21, wC_X2_init, wI_RX2, by decide +kernel, by decide⟩ wV_X2_init rfl dX3_releaseGreat_116 rfl hdd hcat hct hmc hms (fun v h2 hp => by obtain ⟨rfl, hp⟩ := hp; exact kk h2 hp)
theorem clX3_releaseGreat_119 {X : CX} {d0 mc0 ms0 d mc ms cells slots : Nat} {pp : Hp → Prop} {h : Hp} {ls : List (Option Value)} {rest : List Value} {b : Nat} {a0 : Value} {post : Hp → Prop} (C : CmV X mX3_releaseGreat d0 mc0 ms0 pp) (hct : CtV mX3_linkGreat d mc ms [va_rf (some b), a0] h post) (hK : h.K b = 4) (hdd : d < d0) (hmc : cells + mc ≤ mc0) (hms : slots + ms ≤ ms0) (hcat : (rest.map fun v => v.category).sum ≤ 8) (kk : ∀ h', post h' → At X (cells + mc) (slots + ms) 122 ls rest h') : At X cells slots 119 ls (a0 :: va_rf (some b) :: rest) h :=
  st_callV (pc := 119) (M := mX3_linkGreat) (idx := 91) (As := [a0]) C.1 C.2.2.1 C.2.2.2.2.2.2 ⟨wM_RX3_91, wC_X3_linkGreat, wI_RX3, by decide +kernel, by decide⟩ wV_X3_linkGreat wS_X3_linkGreat (ci := 3) (n := 1) rfl rfl (by decide) dX3_releaseGreat_119 rfl hdd hcat hK hct hmc hms (fun v h2 hp => by obtain ⟨rfl, hp⟩ := hp; exact kk h2 hp)
theorem sgX3_linkGreat_0 {X : CX} {d mc ms cells slots : Nat} {pp : Hp → Prop} {h : Hp} {t : Nat} {o1 : Option Nat} {r0 : Nat} (C : CmV X mX3_linkGreat d mc ms pp) (h0 : h.K t = 4) (h1 : h.R 302 t = some r0) (h2 : h.K r0 = 3) (k0 : At X cells slots 13 [some (va_rf (some t)), some (va_rf o1), some (va_rf (some r0)), some (va_rf (h.R 202 r0))] [] h) : At X cells slots 0 [some (va_rf (some t)), some (va_rf o1), none, none] [] h := by
  refine st_aload_n (pc := 0) C.1 (some t) dX3_linkGreat_0 rfl rfl ?_
  refine gR_RX3_24 (pc := 1) C.1 (some r0) dX3_linkGreat_1 h0 h1 ?_
  refine sv_astore_n (pc := 4) (i := 2) C.1 [some (va_rf (some t)), some (va_rf o1), some (va_rf (some r0)), none] (some r0) dX3_linkGreat_4 rfl (Nat.le_of_ble_eq_true rfl) (by rw [C.2.1]; exact Nat.le_of_ble_eq_true rfl) (l1_rf (o := o1) rfl) rfl ?_
  refine st_aload_n (pc := 5) C.1 (some t) dX3_linkGreat_5 rfl rfl ?_
  refine gR_RX3_24 (pc := 6) C.1 (some r0) dX3_linkGreat_6 h0 h1 ?_
  refine gR_RX3_63 (pc := 9) C.1 (h.R 202 r0) dX3_linkGreat_9 h2 rfl ?_
  refine sv_astore_n (pc := 12) (i := 3) C.1 [some (va_rf (some t)), some (va_rf o1), some (va_rf (some r0)), some (va_rf (h.R 202 r0))] (h.R 202 r0) dX3_linkGreat_12 rfl (Nat.le_of_ble_eq_true rfl) (by rw [C.2.1]; exact Nat.le_of_ble_eq_true rfl) rfl rfl ?_
  exact k0

theorem sgX3_linkGreat_13 {X : CX} {d mc ms cells slots : Nat} {pp : Hp → Prop} {h : Hp} {t : Nat} {b1 : Nat} {b2 : Nat} {o3 : Option Nat}  (C : CmV X mX3_linkGreat d mc ms pp) (hc : cells ≤ mc) (hs : slots ≤ ms) (h0 : h.K b2 = 3) (h1 : h.K b1 = 3) (h2 : h.K t = 4) (h3 : ∀ z0 : Nat, o3 = some z0 → h.K z0 = 3) (h4 : ∀ z0 : Nat, o3 = some z0 → ¬ h.I 200 b1 ≤ h.I 200 z0 → h.K z0 = 3) (k0 : o3 = none → pp ((((h.sR 202 b1 (h.R 202 b2)).sR 202 b2 (some b1)).sI 305 t ((h.I 305 t) + 1)).sI 306 t ((h.I 306 t) + (h.I 201 b1)))) (k1 : ∀ z0 : Nat, o3 = some z0 → h.I 200 b1 ≤ h.I 200 z0 → pp ((((h.sR 202 b1 (h.R 202 b2)).sR 202 b2 (some b1)).sI 305 t ((h.I 305 t) + 1)).sI 306 t ((h.I 306 t) + (h.I 201 b1)))) (k2 : ∀ z0 : Nat, o3 = some z0 → ¬ h.I 200 b1 ≤ h.I 200 z0 → At X cells slots 13 [some (va_rf (some t)), some (va_rf (some b1)), some (va_rf (some z0)), some (va_rf (h.R 202 z0))] [] h) : At X cells slots 13 [some (va_rf (some t)), some (va_rf (some b1)), some (va_rf (some b2)), some (va_rf o3)] [] h := by
  refine st_aload_n (pc := 13) C.1 o3 dX3_linkGreat_13 rfl rfl ?_
  refine st_ifnull (pc := 14) (o := o3) (tgt := 38) C.1 dX3_linkGreat_14 (by decide) (fun c0 => ?_) (fun z0 c0 => ?_)
  · try rw [c0]
    refine st_aload_n (pc := 38) C.1 (some b1) dX3_linkGreat_38 rfl rfl ?_
    refine st_aload_n (pc := 39) C.1 (some b2) dX3_linkGreat_39 rfl rfl ?_
    refine gR_RX3_63 (pc := 40) C.1 (h.R 202 b2) dX3_linkGreat_40 h0 rfl ?_
    refine pR_RX3_63 (pc := 43) C.1 (h.R 202 b2) dX3_linkGreat_43 h1 ?_
    refine st_aload_n (pc := 46) C.1 (some b2) dX3_linkGreat_46 rfl rfl ?_
    refine st_aload_n (pc := 47) C.1 (some b1) dX3_linkGreat_47 rfl rfl ?_
    refine pR_RX3_63 (pc := 48) C.1 (some b1) dX3_linkGreat_48 h0 ?_
    refine st_aload_n (pc := 51) C.1 (some t) dX3_linkGreat_51 rfl rfl ?_
    refine st_dup (pc := 52) C.1 dX3_linkGreat_52 (rf_cat (some t)) ?_
    refine gI_RX3_66 (pc := 53) C.1 (h.I 305 t) dX3_linkGreat_53 h2 rfl ?_
    refine st_iconst (pc := 56) (v := 1) C.1 dX3_linkGreat_56 (by decide) ?_
    refine st_iadd (pc := 57) C.1 dX3_linkGreat_57 ?_
    refine pI_RX3_66 (pc := 58) C.1 dX3_linkGreat_58 h2 ?_
    refine st_aload_n (pc := 61) C.1 (some t) dX3_linkGreat_61 rfl rfl ?_
    refine st_dup (pc := 62) C.1 dX3_linkGreat_62 (rf_cat (some t)) ?_
    refine gI_RX3_69 (pc := 63) C.1 (h.I 306 t) dX3_linkGreat_63 h2 rfl ?_
    refine st_aload_n (pc := 66) C.1 (some b1) dX3_linkGreat_66 rfl rfl ?_
    refine gI_RX3_45 (pc := 67) C.1 (h.I 201 b1) dX3_linkGreat_67 h1 rfl ?_
    refine st_iadd (pc := 70) C.1 dX3_linkGreat_70 ?_
    refine pI_RX3_69 (pc := 71) C.1 dX3_linkGreat_71 h2 ?_
    exact rt_v C rfl dX3_linkGreat_74 hc hs ⟨rfl, (k0 c0)⟩
  · try rw [c0]
    refine st_aload_n (pc := 17) C.1 (some z0) dX3_linkGreat_17 rfl rfl ?_
    refine gI_RX3_51 (pc := 18) C.1 (h.I 200 z0) dX3_linkGreat_18 (h3 z0 c0) rfl ?_
    refine st_aload_n (pc := 21) C.1 (some b1) dX3_linkGreat_21 rfl rfl ?_
    refine gI_RX3_51 (pc := 22) C.1 (h.I 200 b1) dX3_linkGreat_22 h1 rfl ?_
    refine st_icmp_ge (pc := 25) (tgt := 38) C.1 dX3_linkGreat_25 (by decide) (fun c1 => ?_) (fun c1 => ?_)
    · refine st_aload_n (pc := 38) C.1 (some b1) dX3_linkGreat_38 rfl rfl ?_
      refine st_aload_n (pc := 39) C.1 (some b2) dX3_linkGreat_39 rfl rfl ?_
      refine gR_RX3_63 (pc := 40) C.1 (h.R 202 b2) dX3_linkGreat_40 h0 rfl ?_
      refine pR_RX3_63 (pc := 43) C.1 (h.R 202 b2) dX3_linkGreat_43 h1 ?_
      refine st_aload_n (pc := 46) C.1 (some b2) dX3_linkGreat_46 rfl rfl ?_
      refine st_aload_n (pc := 47) C.1 (some b1) dX3_linkGreat_47 rfl rfl ?_
      refine pR_RX3_63 (pc := 48) C.1 (some b1) dX3_linkGreat_48 h0 ?_
      refine st_aload_n (pc := 51) C.1 (some t) dX3_linkGreat_51 rfl rfl ?_
      refine st_dup (pc := 52) C.1 dX3_linkGreat_52 (rf_cat (some t)) ?_
      refine gI_RX3_66 (pc := 53) C.1 (h.I 305 t) dX3_linkGreat_53 h2 rfl ?_
      refine st_iconst (pc := 56) (v := 1) C.1 dX3_linkGreat_56 (by decide) ?_
      refine st_iadd (pc := 57) C.1 dX3_linkGreat_57 ?_
      refine pI_RX3_66 (pc := 58) C.1 dX3_linkGreat_58 h2 ?_
      refine st_aload_n (pc := 61) C.1 (some t) dX3_linkGreat_61 rfl rfl ?_
      refine st_dup (pc := 62) C.1 dX3_linkGreat_62 (rf_cat (some t)) ?_
      refine gI_RX3_69 (pc := 63) C.1 (h.I 306 t) dX3_linkGreat_63 h2 rfl ?_
      refine st_aload_n (pc := 66) C.1 (some b1) dX3_linkGreat_66 rfl rfl ?_
      refine gI_RX3_45 (pc := 67) C.1 (h.I 201 b1) dX3_linkGreat_67 h1 rfl ?_
      refine st_iadd (pc := 70) C.1 dX3_linkGreat_70 ?_
      refine pI_RX3_69 (pc := 71) C.1 dX3_linkGreat_71 h2 ?_
      exact rt_v C rfl dX3_linkGreat_74 hc hs ⟨rfl, (k1 z0 c0 c1)⟩
    · refine st_aload_n (pc := 28) C.1 (some z0) dX3_linkGreat_28 rfl rfl ?_
      refine sv_astore_n (pc := 29) (i := 2) C.1 [some (va_rf (some t)), some (va_rf (some b1)), some (va_rf (some z0)), some (va_rf (some z0))] (some z0) dX3_linkGreat_29 rfl (Nat.le_of_ble_eq_true rfl) (by rw [C.2.1]; exact Nat.le_of_ble_eq_true rfl) rfl rfl ?_
      refine st_aload_n (pc := 30) C.1 (some z0) dX3_linkGreat_30 rfl rfl ?_
      refine gR_RX3_63 (pc := 31) C.1 (h.R 202 z0) dX3_linkGreat_31 (h4 z0 c0 c1) rfl ?_
      refine sv_astore_n (pc := 34) (i := 3) C.1 [some (va_rf (some t)), some (va_rf (some b1)), some (va_rf (some z0)), some (va_rf (h.R 202 z0))] (h.R 202 z0) dX3_linkGreat_34 rfl (Nat.le_of_ble_eq_true rfl) (by rw [C.2.1]; exact Nat.le_of_ble_eq_true rfl) rfl rfl ?_
      refine st_goto (pc := 35) (tgt := 13) C.1 dX3_linkGreat_35 (by decide) ?_
      exact (k2 z0 c0 c1)

theorem sgX3_unlinkGreat_0 {X : CX} {d mc ms cells slots : Nat} {pp : Hp → Prop} {h : Hp} {t : Nat} {o1 : Option Nat}  (C : CmV X mX3_unlinkGreat d mc ms pp) (h0 : h.K t = 4) (k0 : At X cells slots 5 [some (va_rf (some t)), some (va_rf o1), some (va_rf (h.R 302 t))] [] h) : At X cells slots 0 [some (va_rf (some t)), some (va_rf o1), none] [] h := by
  refine st_aload_n (pc := 0) C.1 (some t) dX3_unlinkGreat_0 rfl rfl ?_
  refine gR_RX3_24 (pc := 1) C.1 (h.R 302 t) dX3_unlinkGreat_1 h0 rfl ?_
  refine sv_astore_n (pc := 4) (i := 2) C.1 [some (va_rf (some t)), some (va_rf o1), some (va_rf (h.R 302 t))] (h.R 302 t) dX3_unlinkGreat_4 rfl (Nat.le_of_ble_eq_true rfl) (by rw [C.2.1]; exact Nat.le_of_ble_eq_true rfl) (l1_rf (o := o1) rfl) rfl ?_
  exact k0

theorem sgX3_unlinkGreat_5 {X : CX} {d mc ms cells slots : Nat} {pp : Hp → Prop} {h : Hp} {t : Nat} {b1 : Nat} {o2 : Option Nat}  (C : CmV X mX3_unlinkGreat d mc ms pp) (hc : cells ≤ mc) (hs : slots ≤ ms) (h0 : ∀ z0 : Nat, o2 = some z0 → h.K z0 = 3) (h1 : ∀ z0 : Nat, o2 = some z0 → ¬ h.R 202 z0 = some b1 → h.K z0 = 3) (h2 : h.K b1 = 3) (h3 : ∀ z0 : Nat, o2 = some z0 → h.R 202 z0 = some b1 → h.K z0 = 3) (h4 : h.K t = 4) (k0 : o2 = none → pp h) (k1 : ∀ z0 : Nat, o2 = some z0 → ¬ h.R 202 z0 = some b1 → At X cells slots 5 [some (va_rf (some t)), some (va_rf (some b1)), some (va_rf (h.R 202 z0))] [] h) (k2 : ∀ z0 : Nat, o2 = some z0 → h.R 202 z0 = some b1 → pp (((h.sR 202 z0 (h.R 202 b1)).sI 305 t ((h.I 305 t) - 1)).sI 306 t ((h.I 306 t) - (h.I 201 b1)))) : At X cells slots 5 [some (va_rf (some t)), some (va_rf (some b1)), some (va_rf o2)] [] h := by
  refine st_aload_n (pc := 5) C.1 o2 dX3_unlinkGreat_5 rfl rfl ?_
  refine st_ifnull (pc := 6) (o := o2) (tgt := 57) C.1 dX3_unlinkGreat_6 (by decide) (fun c0 => ?_) (fun z0 c0 => ?_)
  · try rw [c0]
    exact rt_v C rfl dX3_unlinkGreat_57 hc hs ⟨rfl, (k0 c0)⟩
  · try rw [c0]
    refine st_aload_n (pc := 9) C.1 (some z0) dX3_unlinkGreat_9 rfl rfl ?_
    refine gR_RX3_63 (pc := 10) C.1 (h.R 202 z0) dX3_unlinkGreat_10 (h0 z0 c0) rfl ?_
    refine st_aload_n (pc := 13) C.1 (some b1) dX3_unlinkGreat_13 rfl rfl ?_
    refine st_acmp_ne (pc := 14) (rx := h.R 202 z0) (ry := some b1) (tgt := 49) C.1 dX3_unlinkGreat_14 (by decide) (fun c1 => ?_) (fun c1 => ?_)
    · refine st_aload_n (pc := 49) C.1 (some z0) dX3_unlinkGreat_49 rfl rfl ?_
      refine gR_RX3_63 (pc := 50) C.1 (h.R 202 z0) dX3_unlinkGreat_50 (h1 z0 c0 c1) rfl ?_
      refine sv_astore_n (pc := 53) (i := 2) C.1 [some (va_rf (some t)), some (va_rf (some b1)), some (va_rf (h.R 202 z0))] (h.R 202 z0) dX3_unlinkGreat_53 rfl (Nat.le_of_ble_eq_true rfl) (by rw [C.2.1]; exact Nat.le_of_ble_eq_true rfl) rfl rfl ?_
      refine st_goto (pc := 54) (tgt := 5) C.1 dX3_unlinkGreat_54 (by decide) ?_
      exact (k1 z0 c0 c1)
    · refine st_aload_n (pc := 17) C.1 (some z0) dX3_unlinkGreat_17 rfl rfl ?_
      refine st_aload_n (pc := 18) C.1 (some b1) dX3_unlinkGreat_18 rfl rfl ?_
      refine gR_RX3_63 (pc := 19) C.1 (h.R 202 b1) dX3_unlinkGreat_19 h2 rfl ?_
      refine pR_RX3_63 (pc := 22) C.1 (h.R 202 b1) dX3_unlinkGreat_22 (h3 z0 c0 c1) ?_
      refine st_aload_n (pc := 25) C.1 (some t) dX3_unlinkGreat_25 rfl rfl ?_
      refine st_dup (pc := 26) C.1 dX3_unlinkGreat_26 (rf_cat (some t)) ?_
      refine gI_RX3_66 (pc := 27) C.1 (h.I 305 t) dX3_unlinkGreat_27 h4 rfl ?_
      refine st_iconst (pc := 30) (v := 1) C.1 dX3_unlinkGreat_30 (by decide) ?_
      refine st_isub (pc := 31) C.1 dX3_unlinkGreat_31 ?_
      refine pI_RX3_66 (pc := 32) C.1 dX3_unlinkGreat_32 h4 ?_
      refine st_aload_n (pc := 35) C.1 (some t) dX3_unlinkGreat_35 rfl rfl ?_
      refine st_dup (pc := 36) C.1 dX3_unlinkGreat_36 (rf_cat (some t)) ?_
      refine gI_RX3_69 (pc := 37) C.1 (h.I 306 t) dX3_unlinkGreat_37 h4 rfl ?_
      refine st_aload_n (pc := 40) C.1 (some b1) dX3_unlinkGreat_40 rfl rfl ?_
      refine gI_RX3_45 (pc := 41) C.1 (h.I 201 b1) dX3_unlinkGreat_41 h2 rfl ?_
      refine st_isub (pc := 44) C.1 dX3_unlinkGreat_44 ?_
      refine pI_RX3_69 (pc := 45) C.1 dX3_unlinkGreat_45 h4 ?_
      exact rt_v C rfl dX3_unlinkGreat_48 hc hs ⟨rfl, (k2 z0 c0 c1)⟩

theorem sgX3_chainOf_0 {X : CX} {d mc ms cells slots : Nat} {pp : Option Nat → Hp → Prop} {h : Hp} {t : Nat} {x1 : Int32} {r0 : Nat} {r1 : Nat} (C : CmR X mX3_chainOf d mc ms pp) (hc : cells ≤ mc) (hs : slots ≤ ms) (h0 : h.K t = 4) (h1 : h.R 301 t = some r0) (h2 : h.K r0 = 14) (h3 : x1 ≤ 64 → 4 ≤ x1 → vp_in (x1 / 4) (h.N r0)) (h4 : h.R 302 t = some r1) (h5 : h.K r1 = 3) (k0 : x1 ≤ 64 → 4 ≤ x1 → pp (h.AR r0 ((x1 / 4).toNatClampNeg)) h) (k1 : x1 ≤ 64 → ¬ 4 ≤ x1 → pp none h) (k2 : ¬ x1 ≤ 64 → pp (h.R 202 r1) h) : At X cells slots 0 [some (va_rf (some t)), some (.int x1)] [] h := by
  refine st_iload_n (pc := 0) C.1 dX3_chainOf_0 rfl rfl ?_
  refine st_bipush (pc := 1) (v := 64) C.1 dX3_chainOf_1 (by decide) ?_
  refine st_icmp_le (pc := 3) (tgt := 14) C.1 dX3_chainOf_3 (by decide) (fun c0 => ?_) (fun c0 => ?_)
  · refine st_iload_n (pc := 14) C.1 dX3_chainOf_14 rfl rfl ?_
    refine st_iconst (pc := 15) (v := 4) C.1 dX3_chainOf_15 (by decide) ?_
    refine st_icmp_ge (pc := 16) (tgt := 23) C.1 dX3_chainOf_16 (by decide) (fun c1 => ?_) (fun c1 => ?_)
    · refine st_aload_n (pc := 23) C.1 (some t) dX3_chainOf_23 rfl rfl ?_
      refine gR_RX3_17 (pc := 24) C.1 (some r0) dX3_chainOf_24 h0 h1 ?_
      refine st_iload_n (pc := 27) C.1 dX3_chainOf_27 rfl rfl ?_
      refine st_iconst (pc := 28) (v := 4) C.1 dX3_chainOf_28 (by decide) ?_
      refine st_idiv (pc := 29) C.1 dX3_chainOf_29 (by decide) ?_
      refine sv_aaload (pc := 30) C.1 (h.AR r0 ((x1 / 4).toNatClampNeg)) dX3_chainOf_30 (Or.inr h2) (h3 c0 c1) rfl ?_
      exact rt_a C (h.AR r0 ((x1 / 4).toNatClampNeg)) rfl dX3_chainOf_31 hc hs ⟨_, rfl, (k0 c0 c1)⟩
    · refine st_nullq (pc := 19) C.1 dX3_chainOf_19 ?_
      refine st_goto (pc := 20) (tgt := 31) C.1 dX3_chainOf_20 (by decide) ?_
      exact rt_a C none rfl dX3_chainOf_31 hc hs ⟨_, rfl, (k1 c0 c1)⟩
  · refine st_aload_n (pc := 6) C.1 (some t) dX3_chainOf_6 rfl rfl ?_
    refine gR_RX3_24 (pc := 7) C.1 (some r1) dX3_chainOf_7 h0 h4 ?_
    refine gR_RX3_63 (pc := 10) C.1 (h.R 202 r1) dX3_chainOf_10 h5 rfl ?_
    exact rt_a C (h.R 202 r1) rfl dX3_chainOf_13 hc hs ⟨_, rfl, (k2 c0)⟩

theorem sgX3_manyOfSize_0 {X : CX} {d mc ms cells slots : Nat} {pp : Int32 → Hp → Prop} {h : Hp} {t : Nat} {x1 : Int32}  (C : CmI X mX3_manyOfSize d mc ms pp)  (k0 : At X cells slots 4 [some (va_rf (some t)), some (.int x1), some (.int 0), none] [.int x1, va_rf (some t)] h) : At X cells slots 0 [some (va_rf (some t)), some (.int x1), none, none] [] h := by
  refine st_iconst (pc := 0) (v := 0) C.1 dX3_manyOfSize_0 (by decide) ?_
  refine sv_istore_n (pc := 1) (i := 2) C.1 [some (va_rf (some t)), some (.int x1), some (.int 0), none] dX3_manyOfSize_1 rfl (Nat.le_of_ble_eq_true rfl) (by rw [C.2.1]; exact Nat.le_of_ble_eq_true rfl) rfl rfl ?_
  refine st_aload_n (pc := 2) C.1 (some t) dX3_manyOfSize_2 rfl rfl ?_
  refine st_iload_n (pc := 3) C.1 dX3_manyOfSize_3 rfl rfl ?_
  exact k0

theorem sgX3_manyOfSize_7 {X : CX} {d mc ms cells slots : Nat} {pp : Int32 → Hp → Prop} {h : Hp} {t : Nat} {x1 : Int32} {x2 : Int32} {p0 : Option Nat}  (C : CmI X mX3_manyOfSize d mc ms pp)  (k0 : At X cells slots 8 [some (va_rf (some t)), some (.int x1), some (.int x2), some (va_rf p0)] [] h) : At X cells slots 7 [some (va_rf (some t)), some (.int x1), some (.int x2), none] [va_rf p0] h := by
  refine sv_astore_n (pc := 7) (i := 3) C.1 [some (va_rf (some t)), some (.int x1), some (.int x2), some (va_rf p0)] p0 dX3_manyOfSize_7 rfl (Nat.le_of_ble_eq_true rfl) (by rw [C.2.1]; exact Nat.le_of_ble_eq_true rfl) rfl rfl ?_
  exact k0

theorem sgX3_manyOfSize_8 {X : CX} {d mc ms cells slots : Nat} {pp : Int32 → Hp → Prop} {h : Hp} {t : Nat} {x1 : Int32} {x2 : Int32} {o3 : Option Nat}  (C : CmI X mX3_manyOfSize d mc ms pp) (hc : cells ≤ mc) (hs : slots ≤ ms) (h0 : ∀ z0 : Nat, o3 = some z0 → h.K z0 = 3) (h1 : ∀ z0 : Nat, o3 = some z0 → ¬ h.I 201 z0 = x1 → h.K z0 = 3) (h2 : ∀ z0 : Nat, o3 = some z0 → h.I 201 z0 = x1 → h.K z0 = 3) (k0 : o3 = none → pp x2 h) (k1 : ∀ z0 : Nat, o3 = some z0 → ¬ h.I 201 z0 = x1 → At X cells slots 8 [some (va_rf (some t)), some (.int x1), some (.int x2), some (va_rf (h.R 202 z0))] [] h) (k2 : ∀ z0 : Nat, o3 = some z0 → h.I 201 z0 = x1 → At X cells slots 8 [some (va_rf (some t)), some (.int x1), some (.int (x2 + 1)), some (va_rf (h.R 202 z0))] [] h) : At X cells slots 8 [some (va_rf (some t)), some (.int x1), some (.int x2), some (va_rf o3)] [] h := by
  refine st_aload_n (pc := 8) C.1 o3 dX3_manyOfSize_8 rfl rfl ?_
  refine st_ifnull (pc := 9) (o := o3) (tgt := 31) C.1 dX3_manyOfSize_9 (by decide) (fun c0 => ?_) (fun z0 c0 => ?_)
  · try rw [c0]
    refine st_iload_n (pc := 31) C.1 dX3_manyOfSize_31 rfl rfl ?_
    exact rt_i C (Or.inl rfl) dX3_manyOfSize_32 hc hs ⟨_, rfl, (k0 c0)⟩
  · try rw [c0]
    refine st_aload_n (pc := 12) C.1 (some z0) dX3_manyOfSize_12 rfl rfl ?_
    refine gI_RX3_45 (pc := 13) C.1 (h.I 201 z0) dX3_manyOfSize_13 (h0 z0 c0) rfl ?_
    refine st_iload_n (pc := 16) C.1 dX3_manyOfSize_16 rfl rfl ?_
    refine st_icmp_ne (pc := 17) (tgt := 23) C.1 dX3_manyOfSize_17 (by decide) (fun c1 => ?_) (fun c1 => ?_)
    · refine st_aload_n (pc := 23) C.1 (some z0) dX3_manyOfSize_23 rfl rfl ?_
      refine gR_RX3_63 (pc := 24) C.1 (h.R 202 z0) dX3_manyOfSize_24 (h1 z0 c0 c1) rfl ?_
      refine sv_astore_n (pc := 27) (i := 3) C.1 [some (va_rf (some t)), some (.int x1), some (.int x2), some (va_rf (h.R 202 z0))] (h.R 202 z0) dX3_manyOfSize_27 rfl (Nat.le_of_ble_eq_true rfl) (by rw [C.2.1]; exact Nat.le_of_ble_eq_true rfl) rfl rfl ?_
      refine st_goto (pc := 28) (tgt := 8) C.1 dX3_manyOfSize_28 (by decide) ?_
      exact (k1 z0 c0 c1)
    · refine sv_iinc (pc := 20) (i := 2) (v := x2 + 1) C.1 [some (va_rf (some t)), some (.int x1), some (.int (x2 + 1)), some (va_rf (some z0))] dX3_manyOfSize_20 rfl rfl (by rw [C.2.1]; exact Nat.le_of_ble_eq_true rfl) rfl rfl ?_
      refine st_aload_n (pc := 23) C.1 (some z0) dX3_manyOfSize_23 rfl rfl ?_
      refine gR_RX3_63 (pc := 24) C.1 (h.R 202 z0) dX3_manyOfSize_24 (h2 z0 c0 c1) rfl ?_
      refine sv_astore_n (pc := 27) (i := 3) C.1 [some (va_rf (some t)), some (.int x1), some (.int (x2 + 1)), some (va_rf (h.R 202 z0))] (h.R 202 z0) dX3_manyOfSize_27 rfl (Nat.le_of_ble_eq_true rfl) (by rw [C.2.1]; exact Nat.le_of_ble_eq_true rfl) rfl rfl ?_
      refine st_goto (pc := 28) (tgt := 8) C.1 dX3_manyOfSize_28 (by decide) ?_
      exact (k2 z0 c0 c1)

theorem clX3_manyOfSize_4 {X : CX} {d0 mc0 ms0 d mc ms cells slots : Nat} {pp : Int32 → Hp → Prop} {h : Hp} {ls : List (Option Value)} {rest : List Value} {b : Nat} {a0 : Value} {post : Option Nat → Hp → Prop} (C : CmI X mX3_manyOfSize d0 mc0 ms0 pp) (hct : CtR mX3_chainOf d mc ms [va_rf (some b), a0] h post) (hK : h.K b = 4) (hdd : d < d0) (hmc : cells + mc ≤ mc0) (hms : slots + ms ≤ ms0) (hcat : (rest.map fun v => v.category).sum ≤ 8) (kk : ∀ o h', post o h' → At X (cells + mc) (slots + ms) 7 ls (va_rf o :: rest) h') : At X cells slots 4 ls (a0 :: va_rf (some b) :: rest) h :=
  st_callV (pc := 4) (M := mX3_chainOf) (idx := 94) (As := [a0]) C.1 C.2.2.1 C.2.2.2.2.2.2 ⟨wM_RX3_94, wC_X3_chainOf, wI_RX3, by decide +kernel, by decide⟩ wV_X3_chainOf wS_X3_chainOf (ci := 3) (n := 1) rfl rfl (by decide) dX3_manyOfSize_4 rfl hdd hcat hK hct hmc hms (fun v h2 hp => by obtain ⟨o, rfl, hp⟩ := hp; exact kk o h2 hp)
theorem sgX3_addressOfSize_0 {X : CX} {d mc ms cells slots : Nat} {pp : Int32 → Hp → Prop} {h : Hp} {t : Nat} {x1 : Int32} {x2 : Int32}  (C : CmI X mX3_addressOfSize d mc ms pp)  (k0 : At X cells slots 4 [some (va_rf (some t)), some (.int x1), some (.int x2), some (.int 0), none] [.int x1, va_rf (some t)] h) : At X cells slots 0 [some (va_rf (some t)), some (.int x1), some (.int x2), none, none] [] h := by
  refine st_iconst (pc := 0) (v := 0) C.1 dX3_addressOfSize_0 (by decide) ?_
  refine sv_istore_n (pc := 1) (i := 3) C.1 [some (va_rf (some t)), some (.int x1), some (.int x2), some (.int 0), none] dX3_addressOfSize_1 rfl (Nat.le_of_ble_eq_true rfl) (by rw [C.2.1]; exact Nat.le_of_ble_eq_true rfl) rfl rfl ?_
  refine st_aload_n (pc := 2) C.1 (some t) dX3_addressOfSize_2 rfl rfl ?_
  refine st_iload_n (pc := 3) C.1 dX3_addressOfSize_3 rfl rfl ?_
  exact k0

theorem sgX3_addressOfSize_7 {X : CX} {d mc ms cells slots : Nat} {pp : Int32 → Hp → Prop} {h : Hp} {t : Nat} {x1 : Int32} {x2 : Int32} {x3 : Int32} {p0 : Option Nat}  (C : CmI X mX3_addressOfSize d mc ms pp)  (k0 : At X cells slots 9 [some (va_rf (some t)), some (.int x1), some (.int x2), some (.int x3), some (va_rf p0)] [] h) : At X cells slots 7 [some (va_rf (some t)), some (.int x1), some (.int x2), some (.int x3), none] [va_rf p0] h := by
  refine sv_astore (pc := 7) (i := 4) C.1 [some (va_rf (some t)), some (.int x1), some (.int x2), some (.int x3), some (va_rf p0)] p0 dX3_addressOfSize_7 (Nat.le_of_ble_eq_true rfl) (by rw [C.2.1]; exact Nat.le_of_ble_eq_true rfl) rfl rfl ?_
  exact k0

theorem sgX3_addressOfSize_9 {X : CX} {d mc ms cells slots : Nat} {pp : Int32 → Hp → Prop} {h : Hp} {t : Nat} {x1 : Int32} {x2 : Int32} {x3 : Int32} {o4 : Option Nat}  (C : CmI X mX3_addressOfSize d mc ms pp) (hc : cells ≤ mc) (hs : slots ≤ ms) (h0 : ∀ z0 : Nat, o4 = some z0 → h.K z0 = 3) (h1 : ∀ z0 : Nat, o4 = some z0 → ¬ h.I 201 z0 = x1 → h.K z0 = 3) (h2 : ∀ z0 : Nat, o4 = some z0 → h.I 201 z0 = x1 → ¬ x3 = x2 → h.K z0 = 3) (h3 : ∀ z0 : Nat, o4 = some z0 → h.I 201 z0 = x1 → x3 = x2 → h.K z0 = 3) (k0 : o4 = none → pp (-1) h) (k1 : ∀ z0 : Nat, o4 = some z0 → ¬ h.I 201 z0 = x1 → At X cells slots 9 [some (va_rf (some t)), some (.int x1), some (.int x2), some (.int x3), some (va_rf (h.R 202 z0))] [] h) (k2 : ∀ z0 : Nat, o4 = some z0 → h.I 201 z0 = x1 → ¬ x3 = x2 → At X cells slots 9 [some (va_rf (some t)), some (.int x1), some (.int x2), some (.int (x3 + 1)), some (va_rf (h.R 202 z0))] [] h) (k3 : ∀ z0 : Nat, o4 = some z0 → h.I 201 z0 = x1 → x3 = x2 → pp (h.I 200 z0) h) : At X cells slots 9 [some (va_rf (some t)), some (.int x1), some (.int x2), some (.int x3), some (va_rf o4)] [] h := by
  refine st_aload (pc := 9) C.1 o4 dX3_addressOfSize_9 rfl ?_
  refine st_ifnull (pc := 11) (o := o4) (tgt := 47) C.1 dX3_addressOfSize_11 (by decide) (fun c0 => ?_) (fun z0 c0 => ?_)
  · try rw [c0]
    refine st_iconst (pc := 47) (v := (-1)) C.1 dX3_addressOfSize_47 (by decide) ?_
    exact rt_i C (Or.inl rfl) dX3_addressOfSize_48 hc hs ⟨_, rfl, (k0 c0)⟩
  · try rw [c0]
    refine st_aload (pc := 14) C.1 (some z0) dX3_addressOfSize_14 rfl ?_
    refine gI_RX3_45 (pc := 16) C.1 (h.I 201 z0) dX3_addressOfSize_16 (h0 z0 c0) rfl ?_
    refine st_iload_n (pc := 19) C.1 dX3_addressOfSize_19 rfl rfl ?_
    refine st_icmp_ne (pc := 20) (tgt := 37) C.1 dX3_addressOfSize_20 (by decide) (fun c1 => ?_) (fun c1 => ?_)
    · refine st_aload (pc := 37) C.1 (some z0) dX3_addressOfSize_37 rfl ?_
      refine gR_RX3_63 (pc := 39) C.1 (h.R 202 z0) dX3_addressOfSize_39 (h1 z0 c0 c1) rfl ?_
      refine sv_astore (pc := 42) (i := 4) C.1 [some (va_rf (some t)), some (.int x1), some (.int x2), some (.int x3), some (va_rf (h.R 202 z0))] (h.R 202 z0) dX3_addressOfSize_42 (Nat.le_of_ble_eq_true rfl) (by rw [C.2.1]; exact Nat.le_of_ble_eq_true rfl) rfl rfl ?_
      refine st_goto (pc := 44) (tgt := 9) C.1 dX3_addressOfSize_44 (by decide) ?_
      exact (k1 z0 c0 c1)
    · refine st_iload_n (pc := 23) C.1 dX3_addressOfSize_23 rfl rfl ?_
      refine st_iload_n (pc := 24) C.1 dX3_addressOfSize_24 rfl rfl ?_
      refine st_icmp_ne (pc := 25) (tgt := 34) C.1 dX3_addressOfSize_25 (by decide) (fun c2 => ?_) (fun c2 => ?_)
      · refine sv_iinc (pc := 34) (i := 3) (v := x3 + 1) C.1 [some (va_rf (some t)), some (.int x1), some (.int x2), some (.int (x3 + 1)), some (va_rf (some z0))] dX3_addressOfSize_34 rfl rfl (by rw [C.2.1]; exact Nat.le_of_ble_eq_true rfl) rfl rfl ?_
        refine st_aload (pc := 37) C.1 (some z0) dX3_addressOfSize_37 rfl ?_
        refine gR_RX3_63 (pc := 39) C.1 (h.R 202 z0) dX3_addressOfSize_39 (h2 z0 c0 c1 c2) rfl ?_
        refine sv_astore (pc := 42) (i := 4) C.1 [some (va_rf (some t)), some (.int x1), some (.int x2), some (.int (x3 + 1)), some (va_rf (h.R 202 z0))] (h.R 202 z0) dX3_addressOfSize_42 (Nat.le_of_ble_eq_true rfl) (by rw [C.2.1]; exact Nat.le_of_ble_eq_true rfl) rfl rfl ?_
        refine st_goto (pc := 44) (tgt := 9) C.1 dX3_addressOfSize_44 (by decide) ?_
        exact (k2 z0 c0 c1 c2)
      · refine st_aload (pc := 28) C.1 (some z0) dX3_addressOfSize_28 rfl ?_
        refine gI_RX3_51 (pc := 30) C.1 (h.I 200 z0) dX3_addressOfSize_30 (h3 z0 c0 c1 c2) rfl ?_
        exact rt_i C (Or.inl rfl) dX3_addressOfSize_33 hc hs ⟨_, rfl, (k3 z0 c0 c1 c2)⟩

theorem clX3_addressOfSize_4 {X : CX} {d0 mc0 ms0 d mc ms cells slots : Nat} {pp : Int32 → Hp → Prop} {h : Hp} {ls : List (Option Value)} {rest : List Value} {b : Nat} {a0 : Value} {post : Option Nat → Hp → Prop} (C : CmI X mX3_addressOfSize d0 mc0 ms0 pp) (hct : CtR mX3_chainOf d mc ms [va_rf (some b), a0] h post) (hK : h.K b = 4) (hdd : d < d0) (hmc : cells + mc ≤ mc0) (hms : slots + ms ≤ ms0) (hcat : (rest.map fun v => v.category).sum ≤ 8) (kk : ∀ o h', post o h' → At X (cells + mc) (slots + ms) 7 ls (va_rf o :: rest) h') : At X cells slots 4 ls (a0 :: va_rf (some b) :: rest) h :=
  st_callV (pc := 4) (M := mX3_chainOf) (idx := 94) (As := [a0]) C.1 C.2.2.1 C.2.2.2.2.2.2 ⟨wM_RX3_94, wC_X3_chainOf, wI_RX3, by decide +kernel, by decide⟩ wV_X3_chainOf wS_X3_chainOf (ci := 3) (n := 1) rfl rfl (by decide) dX3_addressOfSize_4 rfl hdd hcat hK hct hmc hms (fun v h2 hp => by obtain ⟨o, rfl, hp⟩ := hp; exact kk o h2 hp)
theorem sgX5_init_0 {X : CX} {d mc ms cells slots : Nat} {pp : Hp → Prop} {h : Hp} {t : Nat} {b1 : Nat} {o2 : Option Nat} {o3 : Option Nat} {r0 : Nat} (C : CmV X mX5_init d mc ms pp) (hr1 : 1 ≤ d) (h0 : h.K t = 6) (h1 : h.K b1 = 2) (h2 : h.R 100 b1 = some r0) (h3 : h.K r0 = 13) (k0 : At X cells slots 25 [some (va_rf (some t)), some (va_rf (some b1)), some (va_rf o2), some (va_rf o3)] [.int (nI (h.N r0)), va_rf (some t)] (((h.sR 500 t (some b1)).sR 501 t o2).sR 502 t o3)) : At X cells slots 0 [some (va_rf (some t)), some (va_rf (some b1)), some (va_rf o2), some (va_rf o3)] [] h := by
  refine st_aload_n (pc := 0) C.1 (some t) dX5_init_0 rfl rfl ?_
  refine st_objInit (pc := 1) C.1 wM_RX5_1 wObjI wObjC dX5_init_1 (by rw [C.2.2.1]; exact hr1) (by rw [C.2.2.1]; exact Nat.le_trans (Nat.le_of_ble_eq_true rfl) (Nat.mul_le_mul_left 30 hr1)) ?_
  refine st_aload_n (pc := 4) C.1 (some t) dX5_init_4 rfl rfl ?_
  refine st_aload_n (pc := 5) C.1 (some b1) dX5_init_5 rfl rfl ?_
  refine pR_RX5_7 (pc := 6) C.1 (some b1) dX5_init_6 h0 C.2.2.2.2.1 ?_
  refine st_aload_n (pc := 9) C.1 (some t) dX5_init_9 rfl rfl ?_
  refine st_aload_n (pc := 10) C.1 o2 dX5_init_10 rfl rfl ?_
  refine pR_RX5_13 (pc := 11) C.1 o2 dX5_init_11 h0 C.2.2.2.2.1 ?_
  refine st_aload_n (pc := 14) C.1 (some t) dX5_init_14 rfl rfl ?_
  refine st_aload_n (pc := 15) C.1 o3 dX5_init_15 rfl rfl ?_
  refine pR_RX5_17 (pc := 16) C.1 o3 dX5_init_16 h0 C.2.2.2.2.1 ?_
  refine st_aload_n (pc := 19) C.1 (some t) dX5_init_19 rfl rfl ?_
  refine st_aload_n (pc := 20) C.1 (some b1) dX5_init_20 rfl rfl ?_
  refine gR_RX5_21 (pc := 21) C.1 (some r0) dX5_init_21 h1 h2 ?_
  refine st_alen (pc := 24) C.1 dX5_init_24 (Or.inr (Or.inr (Or.inl h3))) ?_
  exact k0

theorem sgX5_init_28 {X : CX} {d mc ms cells slots : Nat} {pp : Hp → Prop} {h : Hp} {t : Nat} {b1 : Nat} {o2 : Option Nat} {o3 : Option Nat} {p0 : Option Nat} {q1 : Nat} {r0 : Nat} (C : CmV X mX5_init d mc ms pp) (h0 : h.K q1 = 6) (h1 : h.K b1 = 2) (h2 : h.R 100 b1 = some r0) (h3 : h.K r0 = 13) (k0 : At X cells slots 37 [some (va_rf (some t)), some (va_rf (some b1)), some (va_rf o2), some (va_rf o3)] [.int (nI (h.N r0)), va_rf (some t)] (h.sR 503 q1 p0)) : At X cells slots 28 [some (va_rf (some t)), some (va_rf (some b1)), some (va_rf o2), some (va_rf o3)] [va_rf p0, va_rf (some q1)] h := by
  refine pR_RX5_29 (pc := 28) C.1 p0 dX5_init_28 h0 C.2.2.2.2.1 ?_
  refine st_aload_n (pc := 31) C.1 (some t) dX5_init_31 rfl rfl ?_
  refine st_aload_n (pc := 32) C.1 (some b1) dX5_init_32 rfl rfl ?_
  refine gR_RX5_21 (pc := 33) C.1 (some r0) dX5_init_33 h1 h2 ?_
  refine st_alen (pc := 36) C.1 dX5_init_36 (Or.inr (Or.inr (Or.inl h3))) ?_
  exact k0

theorem sgX5_init_40 {X : CX} {d mc ms cells slots : Nat} {pp : Hp → Prop} {h : Hp} {t : Nat} {o1 : Option Nat} {o2 : Option Nat} {o3 : Option Nat} {p0 : Option Nat} {q1 : Nat}  (C : CmV X mX5_init d mc ms pp) (hc : cells ≤ mc) (hs : slots ≤ ms) (h0 : h.K q1 = 6) (k0 : pp (h.sR 504 q1 p0)) : At X cells slots 40 [some (va_rf (some t)), some (va_rf o1), some (va_rf o2), some (va_rf o3)] [va_rf p0, va_rf (some q1)] h := by
  refine pR_RX5_32 (pc := 40) C.1 p0 dX5_init_40 h0 C.2.2.2.2.1 ?_
  exact rt_v C rfl dX5_init_43 hc hs ⟨rfl, k0⟩

theorem nwX5_init_25 {X : CX} {d0 mc0 ms0 cells slots : Nat} {pp : Hp → Prop} {h : Hp} {ls : List (Option Value)} {st : List Value} {n : Int32} (C : CmV X mX5_init d0 mc0 ms0 pp) (hn : ¬ n < 0) (hb : n.toNatClampNeg ≤ 60000000) (hmc : cells + 1 ≤ mc0) (hms : slots + n.toNatClampNeg ≤ ms0) (kk : ∀ q, h.K q = 0 → At X (cells + 1) (slots + n.toNatClampNeg) 28 ls (va_rf (some q) :: st) (h.nw q 13 n.toNatClampNeg)) : At X cells slots 25 ls (.int n :: st) h :=
  st_anewarray (pc := 25) C.1 13 2 (R := RX0) (by simp) wK_RX5_27 dX5_init_25 hn hb (by rw [C.2.2.1]; exact hmc) (by rw [C.2.2.1]; exact hms) kk
theorem nwX5_init_37 {X : CX} {d0 mc0 ms0 cells slots : Nat} {pp : Hp → Prop} {h : Hp} {ls : List (Option Value)} {st : List Value} {n : Int32} (C : CmV X mX5_init d0 mc0 ms0 pp) (hn : ¬ n < 0) (hb : n.toNatClampNeg ≤ 60000000) (hmc : cells + 1 ≤ mc0) (hms : slots + n.toNatClampNeg ≤ ms0) (kk : ∀ q, h.K q = 0 → At X (cells + 1) (slots + n.toNatClampNeg) 40 ls (va_rf (some q) :: st) (h.nw q 13 n.toNatClampNeg)) : At X cells slots 37 ls (.int n :: st) h :=
  st_anewarray (pc := 37) C.1 13 2 (R := RX0) (by simp) wK_RX5_27 dX5_init_37 hn hb (by rw [C.2.2.1]; exact hmc) (by rw [C.2.2.1]; exact hms) kk
theorem sgX5_run_0 {X : CX} {d mc ms cells slots : Nat} {pp : Int32 → Hp → Prop} {h : Hp} {t : Nat}  (C : CmI X mX5_run d mc ms pp)  (k0 : At X cells slots 1 [some (va_rf (some t)), none] [va_rf (some t)] h) : At X cells slots 0 [some (va_rf (some t)), none] [] h := by
  refine st_aload_n (pc := 0) C.1 (some t) dX5_run_0 rfl rfl ?_
  exact k0

theorem sgX5_run_4 {X : CX} {d mc ms cells slots : Nat} {pp : Int32 → Hp → Prop} {h : Hp} {t : Nat}  (C : CmI X mX5_run d mc ms pp)  (k0 : At X cells slots 5 [some (va_rf (some t)), none] [va_rf (some t)] h) : At X cells slots 4 [some (va_rf (some t)), none] [] h := by
  refine st_aload_n (pc := 4) C.1 (some t) dX5_run_4 rfl rfl ?_
  exact k0

theorem sgX5_run_8 {X : CX} {d mc ms cells slots : Nat} {pp : Int32 → Hp → Prop} {h : Hp} {t : Nat}  (C : CmI X mX5_run d mc ms pp)  (k0 : At X cells slots 10 [some (va_rf (some t)), some (.int 0)] [] h) : At X cells slots 8 [some (va_rf (some t)), none] [] h := by
  refine st_iconst (pc := 8) (v := 0) C.1 dX5_run_8 (by decide) ?_
  refine sv_istore_n (pc := 9) (i := 1) C.1 [some (va_rf (some t)), some (.int 0)] dX5_run_9 rfl (Nat.le_of_ble_eq_true rfl) (by rw [C.2.1]; exact Nat.le_of_ble_eq_true rfl) rfl rfl ?_
  exact k0

theorem sgX5_run_10 {X : CX} {d mc ms cells slots : Nat} {pp : Int32 → Hp → Prop} {h : Hp} {t : Nat} {x1 : Int32} {r0 : Nat} (C : CmI X mX5_run d mc ms pp) (h0 : h.K t = 6) (h1 : h.R 503 t = some r0) (h2 : h.K r0 = 13) (h3 : ¬ nI (h.N r0) ≤ x1 → ¬ h.I 505 t ≤ x1 → vp_in x1 (h.N r0)) (k0 : nI (h.N r0) ≤ x1 → At X cells slots 44 [some (va_rf (some t)), some (.int x1)] [va_rf (some t)] h) (k1 : ¬ nI (h.N r0) ≤ x1 → h.I 505 t ≤ x1 → At X cells slots 44 [some (va_rf (some t)), some (.int x1)] [va_rf (some t)] h) (k2 : ¬ nI (h.N r0) ≤ x1 → ¬ h.I 505 t ≤ x1 → At X cells slots 34 [some (va_rf (some t)), some (.int x1)] [va_rf (h.AR r0 (x1.toNatClampNeg)), va_rf (some t)] h) : At X cells slots 10 [some (va_rf (some t)), some (.int x1)] [] h := by
  refine st_iload_n (pc := 10) C.1 dX5_run_10 rfl rfl ?_
  refine st_aload_n (pc := 11) C.1 (some t) dX5_run_11 rfl rfl ?_
  refine gR_RX5_29 (pc := 12) C.1 (some r0) dX5_run_12 h0 h1 ?_
  refine st_alen (pc := 15) C.1 dX5_run_15 (Or.inr (Or.inr (Or.inl h2))) ?_
  refine st_icmp_ge (pc := 16) (tgt := 43) C.1 dX5_run_16 (by decide) (fun c0 => ?_) (fun c0 => ?_)
  · refine st_aload_n (pc := 43) C.1 (some t) dX5_run_43 rfl rfl ?_
    exact (k0 c0)
  · refine st_iload_n (pc := 19) C.1 dX5_run_19 rfl rfl ?_
    refine st_aload_n (pc := 20) C.1 (some t) dX5_run_20 rfl rfl ?_
    refine gI_RX5_41 (pc := 21) C.1 (h.I 505 t) dX5_run_21 h0 rfl ?_
    refine st_icmp_ge (pc := 24) (tgt := 43) C.1 dX5_run_24 (by decide) (fun c1 => ?_) (fun c1 => ?_)
    · refine st_aload_n (pc := 43) C.1 (some t) dX5_run_43 rfl rfl ?_
      exact (k1 c0 c1)
    · refine st_aload_n (pc := 27) C.1 (some t) dX5_run_27 rfl rfl ?_
      refine st_aload_n (pc := 28) C.1 (some t) dX5_run_28 rfl rfl ?_
      refine gR_RX5_29 (pc := 29) C.1 (some r0) dX5_run_29 h0 h1 ?_
      refine st_iload_n (pc := 32) C.1 dX5_run_32 rfl rfl ?_
      refine sv_aaload (pc := 33) C.1 (h.AR r0 (x1.toNatClampNeg)) dX5_run_33 (Or.inl h2) (h3 c0 c1) rfl ?_
      exact (k2 c0 c1)

theorem sgX5_run_37 {X : CX} {d mc ms cells slots : Nat} {pp : Int32 → Hp → Prop} {h : Hp} {t : Nat} {x1 : Int32}  (C : CmI X mX5_run d mc ms pp)  (k0 : At X cells slots 10 [some (va_rf (some t)), some (.int (x1 + 1))] [] h) : At X cells slots 37 [some (va_rf (some t)), some (.int x1)] [] h := by
  refine sv_iinc (pc := 37) (i := 1) (v := x1 + 1) C.1 [some (va_rf (some t)), some (.int (x1 + 1))] dX5_run_37 rfl rfl (by rw [C.2.1]; exact Nat.le_of_ble_eq_true rfl) rfl rfl ?_
  refine st_goto (pc := 40) (tgt := 10) C.1 dX5_run_40 (by decide) ?_
  exact k0

theorem sgX5_run_47 {X : CX} {d mc ms cells slots : Nat} {pp : Int32 → Hp → Prop} {h : Hp} {t : Nat} {x1 : Int32}  (C : CmI X mX5_run d mc ms pp)  (k0 : At X cells slots 49 [some (va_rf (some t)), some (.int 0)] [] h) : At X cells slots 47 [some (va_rf (some t)), some (.int x1)] [] h := by
  refine st_iconst (pc := 47) (v := 0) C.1 dX5_run_47 (by decide) ?_
  refine sv_istore_n (pc := 48) (i := 1) C.1 [some (va_rf (some t)), some (.int 0)] dX5_run_48 rfl (Nat.le_of_ble_eq_true rfl) (by rw [C.2.1]; exact Nat.le_of_ble_eq_true rfl) rfl rfl ?_
  exact k0

theorem sgX5_run_49 {X : CX} {d mc ms cells slots : Nat} {pp : Int32 → Hp → Prop} {h : Hp} {t : Nat} {x1 : Int32} {r0 : Nat} (C : CmI X mX5_run d mc ms pp) (hc : cells ≤ mc) (hs : slots ≤ ms) (h0 : h.K t = 6) (h1 : h.R 504 t = some r0) (h2 : h.K r0 = 13) (h3 : ¬ nI (h.N r0) ≤ x1 → ¬ h.I 506 t ≤ x1 → vp_in x1 (h.N r0)) (k0 : nI (h.N r0) ≤ x1 → pp (h.I 506 t) h) (k1 : ¬ nI (h.N r0) ≤ x1 → h.I 506 t ≤ x1 → pp (h.I 506 t) h) (k2 : ¬ nI (h.N r0) ≤ x1 → ¬ h.I 506 t ≤ x1 → At X cells slots 73 [some (va_rf (some t)), some (.int x1)] [va_rf (h.AR r0 (x1.toNatClampNeg)), va_rf (some t)] h) : At X cells slots 49 [some (va_rf (some t)), some (.int x1)] [] h := by
  refine st_iload_n (pc := 49) C.1 dX5_run_49 rfl rfl ?_
  refine st_aload_n (pc := 50) C.1 (some t) dX5_run_50 rfl rfl ?_
  refine gR_RX5_32 (pc := 51) C.1 (some r0) dX5_run_51 h0 h1 ?_
  refine st_alen (pc := 54) C.1 dX5_run_54 (Or.inr (Or.inr (Or.inl h2))) ?_
  refine st_icmp_ge (pc := 55) (tgt := 82) C.1 dX5_run_55 (by decide) (fun c0 => ?_) (fun c0 => ?_)
  · refine st_aload_n (pc := 82) C.1 (some t) dX5_run_82 rfl rfl ?_
    refine gI_RX5_52 (pc := 83) C.1 (h.I 506 t) dX5_run_83 h0 rfl ?_
    exact rt_i C (Or.inl rfl) dX5_run_86 hc hs ⟨_, rfl, (k0 c0)⟩
  · refine st_iload_n (pc := 58) C.1 dX5_run_58 rfl rfl ?_
    refine st_aload_n (pc := 59) C.1 (some t) dX5_run_59 rfl rfl ?_
    refine gI_RX5_52 (pc := 60) C.1 (h.I 506 t) dX5_run_60 h0 rfl ?_
    refine st_icmp_ge (pc := 63) (tgt := 82) C.1 dX5_run_63 (by decide) (fun c1 => ?_) (fun c1 => ?_)
    · refine st_aload_n (pc := 82) C.1 (some t) dX5_run_82 rfl rfl ?_
      refine gI_RX5_52 (pc := 83) C.1 (h.I 506 t) dX5_run_83 h0 rfl ?_
      exact rt_i C (Or.inl rfl) dX5_run_86 hc hs ⟨_, rfl, (k1 c0 c1)⟩
    · refine st_aload_n (pc := 66) C.1 (some t) dX5_run_66 rfl rfl ?_
      refine st_aload_n (pc := 67) C.1 (some t) dX5_run_67 rfl rfl ?_
      refine gR_RX5_32 (pc := 68) C.1 (some r0) dX5_run_68 h0 h1 ?_
      refine st_iload_n (pc := 71) C.1 dX5_run_71 rfl rfl ?_
      refine sv_aaload (pc := 72) C.1 (h.AR r0 (x1.toNatClampNeg)) dX5_run_72 (Or.inl h2) (h3 c0 c1) rfl ?_
      exact (k2 c0 c1)

theorem sgX5_run_76 {X : CX} {d mc ms cells slots : Nat} {pp : Int32 → Hp → Prop} {h : Hp} {t : Nat} {x1 : Int32}  (C : CmI X mX5_run d mc ms pp)  (k0 : At X cells slots 49 [some (va_rf (some t)), some (.int (x1 + 1))] [] h) : At X cells slots 76 [some (va_rf (some t)), some (.int x1)] [] h := by
  refine sv_iinc (pc := 76) (i := 1) (v := x1 + 1) C.1 [some (va_rf (some t)), some (.int (x1 + 1))] dX5_run_76 rfl rfl (by rw [C.2.1]; exact Nat.le_of_ble_eq_true rfl) rfl rfl ?_
  refine st_goto (pc := 79) (tgt := 49) C.1 dX5_run_79 (by decide) ?_
  exact k0

theorem clX5_run_1 {X : CX} {d0 mc0 ms0 d mc ms cells slots : Nat} {pp : Int32 → Hp → Prop} {h : Hp} {ls : List (Option Value)} {rest : List Value} {b : Nat} {post : Hp → Prop} (C : CmI X mX5_run d0 mc0 ms0 pp) (hct : CtV mX5_forgetReached d mc ms [va_rf (some b)] h post) (hK : h.K b = 6) (hdd : d < d0) (hmc : cells + mc ≤ mc0) (hms : slots + ms ≤ ms0) (hcat : (rest.map fun v => v.category).sum ≤ 8) (kk : ∀ h', post h' → At X (cells + mc) (slots + ms) 4 ls rest h') : At X cells slots 1 ls (va_rf (some b) :: rest) h :=
  st_callV (pc := 1) (M := mX5_forgetReached) (idx := 35) (As := []) C.1 C.2.2.1 C.2.2.2.2.2.2 ⟨wM_RX5_35, wC_X5_forgetReached, wI_RX5, by decide +kernel, by decide⟩ wV_X5_forgetReached wS_X5_forgetReached (ci := 5) (n := 0) rfl rfl (by decide) dX5_run_1 rfl hdd hcat hK hct hmc hms (fun v h2 hp => by obtain ⟨rfl, hp⟩ := hp; exact kk h2 hp)
theorem clX5_run_5 {X : CX} {d0 mc0 ms0 d mc ms cells slots : Nat} {pp : Int32 → Hp → Prop} {h : Hp} {ls : List (Option Value)} {rest : List Value} {b : Nat} {post : Hp → Prop} (C : CmI X mX5_run d0 mc0 ms0 pp) (hct : CtV mX5_reachFromRoots d mc ms [va_rf (some b)] h post) (hK : h.K b = 6) (hdd : d < d0) (hmc : cells + mc ≤ mc0) (hms : slots + ms ≤ ms0) (hcat : (rest.map fun v => v.category).sum ≤ 8) (kk : ∀ h', post h' → At X (cells + mc) (slots + ms) 8 ls rest h') : At X cells slots 5 ls (va_rf (some b) :: rest) h :=
  st_callV (pc := 5) (M := mX5_reachFromRoots) (idx := 38) (As := []) C.1 C.2.2.1 C.2.2.2.2.2.2 ⟨wM_RX5_38, wC_X5_reachFromRoots, wI_RX5, by decide +kernel, by decide⟩ wV_X5_reachFromRoots wS_X5_reachFromRoots (ci := 5) (n := 0) rfl rfl (by decide) dX5_run_5 rfl hdd hcat hK hct hmc hms (fun v h2 hp => by obtain ⟨rfl, hp⟩ := hp; exact kk h2 hp)
theorem clX5_run_34 {X : CX} {d0 mc0 ms0 d mc ms cells slots : Nat} {pp : Int32 → Hp → Prop} {h : Hp} {ls : List (Option Value)} {rest : List Value} {b : Nat} {a0 : Value} {post : Hp → Prop} (C : CmI X mX5_run d0 mc0 ms0 pp) (hct : CtV mX5_reachFromBlock d mc ms [va_rf (some b), a0] h post) (hK : h.K b = 6) (hdd : d < d0) (hmc : cells + mc ≤ mc0) (hms : slots + ms ≤ ms0) (hcat : (rest.map fun v => v.category).sum ≤ 8) (kk : ∀ h', post h' → At X (cells + mc) (slots + ms) 37 ls rest h') : At X cells slots 34 ls (a0 :: va_rf (some b) :: rest) h :=
  st_callV (pc := 34) (M := mX5_reachFromBlock) (idx := 45) (As := [a0]) C.1 C.2.2.1 C.2.2.2.2.2.2 ⟨wM_RX5_45, wC_X5_reachFromBlock, wI_RX5, by decide +kernel, by decide⟩ wV_X5_reachFromBlock wS_X5_reachFromBlock (ci := 5) (n := 1) rfl rfl (by decide) dX5_run_34 rfl hdd hcat hK hct hmc hms (fun v h2 hp => by obtain ⟨rfl, hp⟩ := hp; exact kk h2 hp)
theorem clX5_run_44 {X : CX} {d0 mc0 ms0 d mc ms cells slots : Nat} {pp : Int32 → Hp → Prop} {h : Hp} {ls : List (Option Value)} {rest : List Value} {b : Nat} {post : Hp → Prop} (C : CmI X mX5_run d0 mc0 ms0 pp) (hct : CtV mX5_keepLost d mc ms [va_rf (some b)] h post) (hK : h.K b = 6) (hdd : d < d0) (hmc : cells + mc ≤ mc0) (hms : slots + ms ≤ ms0) (hcat : (rest.map fun v => v.category).sum ≤ 8) (kk : ∀ h', post h' → At X (cells + mc) (slots + ms) 47 ls rest h') : At X cells slots 44 ls (va_rf (some b) :: rest) h :=
  st_callV (pc := 44) (M := mX5_keepLost) (idx := 49) (As := []) C.1 C.2.2.1 C.2.2.2.2.2.2 ⟨wM_RX5_49, wC_X5_keepLost, wI_RX5, by decide +kernel, by decide⟩ wV_X5_keepLost wS_X5_keepLost (ci := 5) (n := 0) rfl rfl (by decide) dX5_run_44 rfl hdd hcat hK hct hmc hms (fun v h2 hp => by obtain ⟨rfl, hp⟩ := hp; exact kk h2 hp)
theorem clX5_run_73 {X : CX} {d0 mc0 ms0 d mc ms cells slots : Nat} {pp : Int32 → Hp → Prop} {h : Hp} {ls : List (Option Value)} {rest : List Value} {b : Nat} {a0 : Value} {post : Hp → Prop} (C : CmI X mX5_run d0 mc0 ms0 pp) (hct : CtV mX5_unmarkHeads d mc ms [va_rf (some b), a0] h post) (hK : h.K b = 6) (hdd : d < d0) (hmc : cells + mc ≤ mc0) (hms : slots + ms ≤ ms0) (hcat : (rest.map fun v => v.category).sum ≤ 8) (kk : ∀ h', post h' → At X (cells + mc) (slots + ms) 76 ls rest h') : At X cells slots 73 ls (a0 :: va_rf (some b) :: rest) h :=
  st_callV (pc := 73) (M := mX5_unmarkHeads) (idx := 55) (As := [a0]) C.1 C.2.2.1 C.2.2.2.2.2.2 ⟨wM_RX5_55, wC_X5_unmarkHeads, wI_RX5, by decide +kernel, by decide⟩ wV_X5_unmarkHeads wS_X5_unmarkHeads (ci := 5) (n := 1) rfl rfl (by decide) dX5_run_73 rfl hdd hcat hK hct hmc hms (fun v h2 hp => by obtain ⟨rfl, hp⟩ := hp; exact kk h2 hp)
theorem sgX5_lostBlock_0 {X : CX} {d mc ms cells slots : Nat} {pp : Option Nat → Hp → Prop} {h : Hp} {t : Nat} {x1 : Int32} {r0 : Nat} (C : CmR X mX5_lostBlock d mc ms pp) (hc : cells ≤ mc) (hs : slots ≤ ms) (h0 : h.K t = 6) (h1 : h.R 504 t = some r0) (h2 : h.K r0 = 13) (h3 : ¬ x1 < 0 → ¬ h.I 506 t ≤ x1 → ¬ nI (h.N r0) ≤ x1 → vp_in x1 (h.N r0)) (k0 : x1 < 0 → pp none h) (k1 : ¬ x1 < 0 → h.I 506 t ≤ x1 → pp none h) (k2 : ¬ x1 < 0 → ¬ h.I 506 t ≤ x1 → nI (h.N r0) ≤ x1 → pp none h) (k3 : ¬ x1 < 0 → ¬ h.I 506 t ≤ x1 → ¬ nI (h.N r0) ≤ x1 → pp (h.AR r0 (x1.toNatClampNeg)) h) : At X cells slots 0 [some (va_rf (some t)), some (.int x1)] [] h := by
  refine st_iload_n (pc := 0) C.1 dX5_lostBlock_0 rfl rfl ?_
  refine st_if_lt (pc := 1) (tgt := 30) C.1 dX5_lostBlock_1 (by decide) (fun c0 => ?_) (fun c0 => ?_)
  · refine st_nullq (pc := 30) C.1 dX5_lostBlock_30 ?_
    exact rt_a C none rfl dX5_lostBlock_31 hc hs ⟨_, rfl, (k0 c0)⟩
  · refine st_iload_n (pc := 4) C.1 dX5_lostBlock_4 rfl rfl ?_
    refine st_aload_n (pc := 5) C.1 (some t) dX5_lostBlock_5 rfl rfl ?_
    refine gI_RX5_52 (pc := 6) C.1 (h.I 506 t) dX5_lostBlock_6 h0 rfl ?_
    refine st_icmp_ge (pc := 9) (tgt := 30) C.1 dX5_lostBlock_9 (by decide) (fun c1 => ?_) (fun c1 => ?_)
    · refine st_nullq (pc := 30) C.1 dX5_lostBlock_30 ?_
      exact rt_a C none rfl dX5_lostBlock_31 hc hs ⟨_, rfl, (k1 c0 c1)⟩
    · refine st_iload_n (pc := 12) C.1 dX5_lostBlock_12 rfl rfl ?_
      refine st_aload_n (pc := 13) C.1 (some t) dX5_lostBlock_13 rfl rfl ?_
      refine gR_RX5_32 (pc := 14) C.1 (some r0) dX5_lostBlock_14 h0 h1 ?_
      refine st_alen (pc := 17) C.1 dX5_lostBlock_17 (Or.inr (Or.inr (Or.inl h2))) ?_
      refine st_icmp_ge (pc := 18) (tgt := 30) C.1 dX5_lostBlock_18 (by decide) (fun c2 => ?_) (fun c2 => ?_)
      · refine st_nullq (pc := 30) C.1 dX5_lostBlock_30 ?_
        exact rt_a C none rfl dX5_lostBlock_31 hc hs ⟨_, rfl, (k2 c0 c1 c2)⟩
      · refine st_aload_n (pc := 21) C.1 (some t) dX5_lostBlock_21 rfl rfl ?_
        refine gR_RX5_32 (pc := 22) C.1 (some r0) dX5_lostBlock_22 h0 h1 ?_
        refine st_iload_n (pc := 25) C.1 dX5_lostBlock_25 rfl rfl ?_
        refine sv_aaload (pc := 26) C.1 (h.AR r0 (x1.toNatClampNeg)) dX5_lostBlock_26 (Or.inl h2) (h3 c0 c1 c2) rfl ?_
        refine st_goto (pc := 27) (tgt := 31) C.1 dX5_lostBlock_27 (by decide) ?_
        exact rt_a C (h.AR r0 (x1.toNatClampNeg)) rfl dX5_lostBlock_31 hc hs ⟨_, rfl, (k3 c0 c1 c2)⟩

theorem sgX5_leadingNumbers_0 {X : CX} {d mc ms cells slots : Nat} {pp : Int32 → Hp → Prop} {h : Hp} {t : Nat}  (C : CmI X mX5_leadingNumbers d mc ms pp)  (k0 : At X cells slots 4 [some (va_rf (some t)), some (.int 0), some (.int 0)] [] h) : At X cells slots 0 [some (va_rf (some t)), none, none] [] h := by
  refine st_iconst (pc := 0) (v := 0) C.1 dX5_leadingNumbers_0 (by decide) ?_
  refine sv_istore_n (pc := 1) (i := 1) C.1 [some (va_rf (some t)), some (.int 0), none] dX5_leadingNumbers_1 rfl (Nat.le_of_ble_eq_true rfl) (by rw [C.2.1]; exact Nat.le_of_ble_eq_true rfl) rfl rfl ?_
  refine st_iconst (pc := 2) (v := 0) C.1 dX5_leadingNumbers_2 (by decide) ?_
  refine sv_istore_n (pc := 3) (i := 2) C.1 [some (va_rf (some t)), some (.int 0), some (.int 0)] dX5_leadingNumbers_3 rfl (Nat.le_of_ble_eq_true rfl) (by rw [C.2.1]; exact Nat.le_of_ble_eq_true rfl) rfl rfl ?_
  exact k0

theorem sgX5_leadingNumbers_4 {X : CX} {d mc ms cells slots : Nat} {pp : Int32 → Hp → Prop} {h : Hp} {t : Nat} {x1 : Int32} {x2 : Int32} {r0 : Nat} (C : CmI X mX5_leadingNumbers d mc ms pp) (h0 : h.K t = 6) (h1 : h.R 502 t = some r0) (h2 : h.K r0 = 11) (h3 : ¬ nI (h.N r0) ≤ x2 → vp_in x2 (h.N r0)) (k0 : nI (h.N r0) ≤ x2 → At X cells slots 40 [some (va_rf (some t)), some (.int x1), some (.int 0)] [] h) (k1 : ¬ nI (h.N r0) ≤ x2 → At X cells slots 23 [some (va_rf (some t)), some (.int x1), some (.int x2)] [.int (h.AI r0 (x2.toNatClampNeg)), va_rf (h.R 500 t)] h) : At X cells slots 4 [some (va_rf (some t)), some (.int x1), some (.int x2)] [] h := by
  refine st_iload_n (pc := 4) C.1 dX5_leadingNumbers_4 rfl rfl ?_
  refine st_aload_n (pc := 5) C.1 (some t) dX5_leadingNumbers_5 rfl rfl ?_
  refine gR_RX5_17 (pc := 6) C.1 (some r0) dX5_leadingNumbers_6 h0 h1 ?_
  refine st_alen (pc := 9) C.1 dX5_leadingNumbers_9 (Or.inl h2) ?_
  refine st_icmp_ge (pc := 10) (tgt := 38) C.1 dX5_leadingNumbers_10 (by decide) (fun c0 => ?_) (fun c0 => ?_)
  · refine st_iconst (pc := 38) (v := 0) C.1 dX5_leadingNumbers_38 (by decide) ?_
    refine sv_istore_n (pc := 39) (i := 2) C.1 [some (va_rf (some t)), some (.int x1), some (.int 0)] dX5_leadingNumbers_39 rfl (Nat.le_of_ble_eq_true rfl) (by rw [C.2.1]; exact Nat.le_of_ble_eq_true rfl) rfl rfl ?_
    exact (k0 c0)
  · refine st_aload_n (pc := 13) C.1 (some t) dX5_leadingNumbers_13 rfl rfl ?_
    refine gR_RX5_7 (pc := 14) C.1 (h.R 500 t) dX5_leadingNumbers_14 h0 rfl ?_
    refine st_aload_n (pc := 17) C.1 (some t) dX5_leadingNumbers_17 rfl rfl ?_
    refine gR_RX5_17 (pc := 18) C.1 (some r0) dX5_leadingNumbers_18 h0 h1 ?_
    refine st_iload_n (pc := 21) C.1 dX5_leadingNumbers_21 rfl rfl ?_
    refine sv_iaload (pc := 22) C.1 (h.AI r0 (x2.toNatClampNeg)) dX5_leadingNumbers_22 h2 (h3 c0) rfl ?_
    exact (k1 c0)

theorem sgX5_leadingNumbers_26 {X : CX} {d mc ms cells slots : Nat} {pp : Int32 → Hp → Prop} {h : Hp} {t : Nat} {x1 : Int32} {x2 : Int32} {p0 : Option Nat}  (C : CmI X mX5_leadingNumbers d mc ms pp)  (k0 : p0 = none → At X cells slots 4 [some (va_rf (some t)), some (.int x1), some (.int (x2 + 1))] [] h) (k1 : ∀ z0 : Nat, p0 = some z0 → At X cells slots 4 [some (va_rf (some t)), some (.int (x1 + 1)), some (.int (x2 + 1))] [] h) : At X cells slots 26 [some (va_rf (some t)), some (.int x1), some (.int x2)] [va_rf p0] h := by
  refine st_ifnull (pc := 26) (o := p0) (tgt := 32) C.1 dX5_leadingNumbers_26 (by decide) (fun c0 => ?_) (fun z0 c0 => ?_)
  · try rw [c0]
    refine sv_iinc (pc := 32) (i := 2) (v := x2 + 1) C.1 [some (va_rf (some t)), some (.int x1), some (.int (x2 + 1))] dX5_leadingNumbers_32 rfl rfl (by rw [C.2.1]; exact Nat.le_of_ble_eq_true rfl) rfl rfl ?_
    refine st_goto (pc := 35) (tgt := 4) C.1 dX5_leadingNumbers_35 (by decide) ?_
    exact (k0 c0)
  · try rw [c0]
    refine sv_iinc (pc := 29) (i := 1) (v := x1 + 1) C.1 [some (va_rf (some t)), some (.int (x1 + 1)), some (.int x2)] dX5_leadingNumbers_29 rfl rfl (by rw [C.2.1]; exact Nat.le_of_ble_eq_true rfl) rfl rfl ?_
    refine sv_iinc (pc := 32) (i := 2) (v := x2 + 1) C.1 [some (va_rf (some t)), some (.int (x1 + 1)), some (.int (x2 + 1))] dX5_leadingNumbers_32 rfl rfl (by rw [C.2.1]; exact Nat.le_of_ble_eq_true rfl) rfl rfl ?_
    refine st_goto (pc := 35) (tgt := 4) C.1 dX5_leadingNumbers_35 (by decide) ?_
    exact (k1 z0 c0)

theorem sgX5_leadingNumbers_40 {X : CX} {d mc ms cells slots : Nat} {pp : Int32 → Hp → Prop} {h : Hp} {t : Nat} {x1 : Int32} {x2 : Int32} {r0 : Nat} {r1 : Nat} (C : CmI X mX5_leadingNumbers d mc ms pp) (hc : cells ≤ mc) (hs : slots ≤ ms) (h0 : h.K t = 6) (h1 : h.R 500 t = some r0) (h2 : h.K r0 = 2) (h3 : h.R 100 r0 = some r1) (h4 : h.K r1 = 13) (k0 : nI (h.N r1) ≤ x2 → pp x1 h) (k1 : ¬ nI (h.N r1) ≤ x2 → At X cells slots 59 [some (va_rf (some t)), some (.int x1), some (.int x2)] [.int x2, va_rf (some r0), va_rf (some t), .int x1] h) : At X cells slots 40 [some (va_rf (some t)), some (.int x1), some (.int x2)] [] h := by
  refine st_iload_n (pc := 40) C.1 dX5_leadingNumbers_40 rfl rfl ?_
  refine st_aload_n (pc := 41) C.1 (some t) dX5_leadingNumbers_41 rfl rfl ?_
  refine gR_RX5_7 (pc := 42) C.1 (some r0) dX5_leadingNumbers_42 h0 h1 ?_
  refine gR_RX5_21 (pc := 45) C.1 (some r1) dX5_leadingNumbers_45 h2 h3 ?_
  refine st_alen (pc := 48) C.1 dX5_leadingNumbers_48 (Or.inr (Or.inr (Or.inl h4))) ?_
  refine st_icmp_ge (pc := 49) (tgt := 73) C.1 dX5_leadingNumbers_49 (by decide) (fun c0 => ?_) (fun c0 => ?_)
  · refine st_iload_n (pc := 73) C.1 dX5_leadingNumbers_73 rfl rfl ?_
    exact rt_i C (Or.inl rfl) dX5_leadingNumbers_74 hc hs ⟨_, rfl, (k0 c0)⟩
  · refine st_iload_n (pc := 52) C.1 dX5_leadingNumbers_52 rfl rfl ?_
    refine st_aload_n (pc := 53) C.1 (some t) dX5_leadingNumbers_53 rfl rfl ?_
    refine st_aload_n (pc := 54) C.1 (some t) dX5_leadingNumbers_54 rfl rfl ?_
    refine gR_RX5_7 (pc := 55) C.1 (some r0) dX5_leadingNumbers_55 h0 h1 ?_
    refine st_iload_n (pc := 58) C.1 dX5_leadingNumbers_58 rfl rfl ?_
    exact (k1 c0)

theorem sgX5_leadingNumbers_62 {X : CX} {d mc ms cells slots : Nat} {pp : Int32 → Hp → Prop} {h : Hp} {t : Nat} {x1 : Int32} {x2 : Int32} {p0 : Option Nat} {p1 : Option Nat} {u2 : Int32}  (C : CmI X mX5_leadingNumbers d mc ms pp)  (k0 : At X cells slots 62 [some (va_rf (some t)), some (.int x1), some (.int x2)] [va_rf p0, va_rf p1, .int u2] h) : At X cells slots 62 [some (va_rf (some t)), some (.int x1), some (.int x2)] [va_rf p0, va_rf p1, .int u2] h := by
  exact k0

theorem sgX5_leadingNumbers_65 {X : CX} {d mc ms cells slots : Nat} {pp : Int32 → Hp → Prop} {h : Hp} {t : Nat} {x1 : Int32} {x2 : Int32} {u0 : Int32} {u1 : Int32}  (C : CmI X mX5_leadingNumbers d mc ms pp)  (k0 : At X cells slots 40 [some (va_rf (some t)), some (.int (u1 + u0)), some (.int (x2 + 1))] [] h) : At X cells slots 65 [some (va_rf (some t)), some (.int x1), some (.int x2)] [.int u0, .int u1] h := by
  refine st_iadd (pc := 65) C.1 dX5_leadingNumbers_65 ?_
  refine sv_istore_n (pc := 66) (i := 1) C.1 [some (va_rf (some t)), some (.int (u1 + u0)), some (.int x2)] dX5_leadingNumbers_66 rfl (Nat.le_of_ble_eq_true rfl) (by rw [C.2.1]; exact Nat.le_of_ble_eq_true rfl) rfl rfl ?_
  refine sv_iinc (pc := 67) (i := 2) (v := x2 + 1) C.1 [some (va_rf (some t)), some (.int (u1 + u0)), some (.int (x2 + 1))] dX5_leadingNumbers_67 rfl rfl (by rw [C.2.1]; exact Nat.le_of_ble_eq_true rfl) rfl rfl ?_
  refine st_goto (pc := 70) (tgt := 40) C.1 dX5_leadingNumbers_70 (by decide) ?_
  exact k0

theorem clX5_leadingNumbers_23 {X : CX} {d0 mc0 ms0 d mc ms cells slots : Nat} {pp : Int32 → Hp → Prop} {h : Hp} {ls : List (Option Value)} {rest : List Value} {b : Nat} {a0 : Value} {post : Option Nat → Hp → Prop} (C : CmI X mX5_leadingNumbers d0 mc0 ms0 pp) (hct : CtR mX1_ledToBy d mc ms [va_rf (some b), a0] h post) (hK : h.K b = 2) (hdd : d < d0) (hmc : cells + mc ≤ mc0) (hms : slots + ms ≤ ms0) (hcat : (rest.map fun v => v.category).sum ≤ 8) (kk : ∀ o h', post o h' → At X (cells + mc) (slots + ms) 26 ls (va_rf o :: rest) h') : At X cells slots 23 ls (a0 :: va_rf (some b) :: rest) h :=
  st_callV (pc := 23) (M := mX1_ledToBy) (idx := 58) (As := [a0]) C.1 C.2.2.1 C.2.2.2.2.2.2 ⟨wM_RX5_58, wC_X1_ledToBy, wI_RX1, by decide +kernel, by decide⟩ wV_X1_ledToBy wS_X1_ledToBy (ci := 1) (n := 1) rfl rfl (by decide) dX5_leadingNumbers_23 rfl hdd hcat hK hct hmc hms (fun v h2 hp => by obtain ⟨o, rfl, hp⟩ := hp; exact kk o h2 hp)
theorem clX5_leadingNumbers_59 {X : CX} {d0 mc0 ms0 d mc ms cells slots : Nat} {pp : Int32 → Hp → Prop} {h : Hp} {ls : List (Option Value)} {rest : List Value} {b : Nat} {a0 : Value} {post : Option Nat → Hp → Prop} (C : CmI X mX5_leadingNumbers d0 mc0 ms0 pp) (hct : CtR mX1_liveFromUnit d mc ms [va_rf (some b), a0] h post) (hK : h.K b = 2) (hdd : d < d0) (hmc : cells + mc ≤ mc0) (hms : slots + ms ≤ ms0) (hcat : (rest.map fun v => v.category).sum ≤ 8) (kk : ∀ o h', post o h' → At X (cells + mc) (slots + ms) 62 ls (va_rf o :: rest) h') : At X cells slots 59 ls (a0 :: va_rf (some b) :: rest) h :=
  st_callV (pc := 59) (M := mX1_liveFromUnit) (idx := 62) (As := [a0]) C.1 C.2.2.1 C.2.2.2.2.2.2 ⟨wM_RX5_62, wC_X1_liveFromUnit, wI_RX1, by decide +kernel, by decide⟩ wV_X1_liveFromUnit wS_X1_liveFromUnit (ci := 1) (n := 1) rfl rfl (by decide) dX5_leadingNumbers_59 rfl hdd hcat hK hct hmc hms (fun v h2 hp => by obtain ⟨o, rfl, hp⟩ := hp; exact kk o h2 hp)
theorem clX5_leadingNumbers_62 {X : CX} {d0 mc0 ms0 d mc ms cells slots : Nat} {pp : Int32 → Hp → Prop} {h : Hp} {ls : List (Option Value)} {rest : List Value} {b : Nat} {a0 : Value} {post : Int32 → Hp → Prop} (C : CmI X mX5_leadingNumbers d0 mc0 ms0 pp) (hct : CtI mX5_leadingWords d mc ms [va_rf (some b), a0] h post) (hK : h.K b = 6) (hdd : d < d0) (hmc : cells + mc ≤ mc0) (hms : slots + ms ≤ ms0) (hcat : (rest.map fun v => v.category).sum ≤ 8) (kk : ∀ r h', post r h' → At X (cells + mc) (slots + ms) 65 ls (.int r :: rest) h') : At X cells slots 62 ls (a0 :: va_rf (some b) :: rest) h :=
  st_callV (pc := 62) (M := mX5_leadingWords) (idx := 65) (As := [a0]) C.1 C.2.2.1 C.2.2.2.2.2.2 ⟨wM_RX5_65, wC_X5_leadingWords, wI_RX5, by decide +kernel, by decide⟩ wV_X5_leadingWords wS_X5_leadingWords (ci := 5) (n := 1) rfl rfl (by decide) dX5_leadingNumbers_62 rfl hdd hcat hK hct hmc hms (fun v h2 hp => by obtain ⟨r, rfl, hp⟩ := hp; exact kk r h2 hp)
theorem sgX5_leadingWords_0 {X : CX} {d mc ms cells slots : Nat} {pp : Int32 → Hp → Prop} {h : Hp} {t : Nat} {o1 : Option Nat}  (C : CmI X mX5_leadingWords d mc ms pp) (h0 : ∀ z0 : Nat, o1 = some z0 → h.K z0 = 1) (k0 : ∀ z0 : Nat, o1 = some z0 → At X cells slots 18 [some (va_rf (some t)), some (va_rf (some z0)), some (.int 0), some (.int (h.I 3 z0)), some (.int 0)] [] h) (k1 : o1 = none → At X cells slots 18 [some (va_rf (some t)), some (va_rf none), some (.int 0), some (.int 0), some (.int 0)] [] h) : At X cells slots 0 [some (va_rf (some t)), some (va_rf o1), none, none, none] [] h := by
  refine st_iconst (pc := 0) (v := 0) C.1 dX5_leadingWords_0 (by decide) ?_
  refine sv_istore_n (pc := 1) (i := 2) C.1 [some (va_rf (some t)), some (va_rf o1), some (.int 0), none, none] dX5_leadingWords_1 rfl (Nat.le_of_ble_eq_true rfl) (by rw [C.2.1]; exact Nat.le_of_ble_eq_true rfl) (l1_rf (o := o1) rfl) rfl ?_
  refine st_aload_n (pc := 2) C.1 o1 dX5_leadingWords_2 rfl rfl ?_
  refine st_ifnonnull (pc := 3) (o := o1) (tgt := 10) C.1 dX5_leadingWords_3 (by decide) (fun z0 c0 => ?_) (fun c0 => ?_)
  · try rw [c0]
    refine st_aload_n (pc := 10) C.1 (some z0) dX5_leadingWords_10 rfl rfl ?_
    refine gI_RX5_69 (pc := 11) C.1 (h.I 3 z0) dX5_leadingWords_11 (h0 z0 c0) rfl ?_
    refine sv_istore_n (pc := 14) (i := 3) C.1 [some (va_rf (some t)), some (va_rf (some z0)), some (.int 0), some (.int (h.I 3 z0)), none] dX5_leadingWords_14 rfl (Nat.le_of_ble_eq_true rfl) (by rw [C.2.1]; exact Nat.le_of_ble_eq_true rfl) rfl rfl ?_
    refine st_iconst (pc := 15) (v := 0) C.1 dX5_leadingWords_15 (by decide) ?_
    refine sv_istore (pc := 16) (i := 4) C.1 [some (va_rf (some t)), some (va_rf (some z0)), some (.int 0), some (.int (h.I 3 z0)), some (.int 0)] dX5_leadingWords_16 (Nat.le_of_ble_eq_true rfl) (by rw [C.2.1]; exact Nat.le_of_ble_eq_true rfl) rfl rfl ?_
    exact (k0 z0 c0)
  · try rw [c0]
    refine st_iconst (pc := 6) (v := 0) C.1 dX5_leadingWords_6 (by decide) ?_
    refine st_goto (pc := 7) (tgt := 14) C.1 dX5_leadingWords_7 (by decide) ?_
    refine sv_istore_n (pc := 14) (i := 3) C.1 [some (va_rf (some t)), some (va_rf none), some (.int 0), some (.int 0), none] dX5_leadingWords_14 rfl (Nat.le_of_ble_eq_true rfl) (by rw [C.2.1]; exact Nat.le_of_ble_eq_true rfl) rfl rfl ?_
    refine st_iconst (pc := 15) (v := 0) C.1 dX5_leadingWords_15 (by decide) ?_
    refine sv_istore (pc := 16) (i := 4) C.1 [some (va_rf (some t)), some (va_rf none), some (.int 0), some (.int 0), some (.int 0)] dX5_leadingWords_16 (Nat.le_of_ble_eq_true rfl) (by rw [C.2.1]; exact Nat.le_of_ble_eq_true rfl) rfl rfl ?_
    exact (k1 c0)

theorem sgX5_leadingWords_18 {X : CX} {d mc ms cells slots : Nat} {pp : Int32 → Hp → Prop} {h : Hp} {t : Nat} {o1 : Option Nat} {x2 : Int32} {x3 : Int32} {x4 : Int32}  (C : CmI X mX5_leadingWords d mc ms pp) (hc : cells ≤ mc) (hs : slots ≤ ms)  (k0 : x3 ≤ x4 → pp x2 h) (k1 : ¬ x3 ≤ x4 → At X cells slots 28 [some (va_rf (some t)), some (va_rf o1), some (.int x2), some (.int x3), some (.int x4)] [.int x4, va_rf o1, va_rf (some t)] h) : At X cells slots 18 [some (va_rf (some t)), some (va_rf o1), some (.int x2), some (.int x3), some (.int x4)] [] h := by
  refine st_iload (pc := 18) C.1 dX5_leadingWords_18 rfl ?_
  refine st_iload_n (pc := 20) C.1 dX5_leadingWords_20 rfl rfl ?_
  refine st_icmp_ge (pc := 21) (tgt := 43) C.1 dX5_leadingWords_21 (by decide) (fun c0 => ?_) (fun c0 => ?_)
  · refine st_iload_n (pc := 43) C.1 dX5_leadingWords_43 rfl rfl ?_
    exact rt_i C (Or.inl rfl) dX5_leadingWords_44 hc hs ⟨_, rfl, (k0 c0)⟩
  · refine st_aload_n (pc := 24) C.1 (some t) dX5_leadingWords_24 rfl rfl ?_
    refine st_aload_n (pc := 25) C.1 o1 dX5_leadingWords_25 rfl rfl ?_
    refine st_iload (pc := 26) C.1 dX5_leadingWords_26 rfl ?_
    exact (k1 c0)

theorem sgX5_leadingWords_31 {X : CX} {d mc ms cells slots : Nat} {pp : Int32 → Hp → Prop} {h : Hp} {t : Nat} {o1 : Option Nat} {x2 : Int32} {x3 : Int32} {x4 : Int32} {p0 : Option Nat}  (C : CmI X mX5_leadingWords d mc ms pp)  (k0 : p0 = none → At X cells slots 18 [some (va_rf (some t)), some (va_rf o1), some (.int x2), some (.int x3), some (.int (x4 + 1))] [] h) (k1 : ∀ z0 : Nat, p0 = some z0 → At X cells slots 18 [some (va_rf (some t)), some (va_rf o1), some (.int (x2 + 1)), some (.int x3), some (.int (x4 + 1))] [] h) : At X cells slots 31 [some (va_rf (some t)), some (va_rf o1), some (.int x2), some (.int x3), some (.int x4)] [va_rf p0] h := by
  refine st_ifnull (pc := 31) (o := p0) (tgt := 37) C.1 dX5_leadingWords_31 (by decide) (fun c0 => ?_) (fun z0 c0 => ?_)
  · try rw [c0]
    refine sv_iinc (pc := 37) (i := 4) (v := x4 + 1) C.1 [some (va_rf (some t)), some (va_rf o1), some (.int x2), some (.int x3), some (.int (x4 + 1))] dX5_leadingWords_37 rfl rfl (by rw [C.2.1]; exact Nat.le_of_ble_eq_true rfl) rfl rfl ?_
    refine st_goto (pc := 40) (tgt := 18) C.1 dX5_leadingWords_40 (by decide) ?_
    exact (k0 c0)
  · try rw [c0]
    refine sv_iinc (pc := 34) (i := 2) (v := x2 + 1) C.1 [some (va_rf (some t)), some (va_rf o1), some (.int (x2 + 1)), some (.int x3), some (.int x4)] dX5_leadingWords_34 rfl rfl (by rw [C.2.1]; exact Nat.le_of_ble_eq_true rfl) (l1_rf (o := o1) rfl) rfl ?_
    refine sv_iinc (pc := 37) (i := 4) (v := x4 + 1) C.1 [some (va_rf (some t)), some (va_rf o1), some (.int (x2 + 1)), some (.int x3), some (.int (x4 + 1))] dX5_leadingWords_37 rfl rfl (by rw [C.2.1]; exact Nat.le_of_ble_eq_true rfl) rfl rfl ?_
    refine st_goto (pc := 40) (tgt := 18) C.1 dX5_leadingWords_40 (by decide) ?_
    exact (k1 z0 c0)

theorem clX5_leadingWords_28 {X : CX} {d0 mc0 ms0 d mc ms cells slots : Nat} {pp : Int32 → Hp → Prop} {h : Hp} {ls : List (Option Value)} {rest : List Value} {b : Nat} {a0 a1 : Value} {post : Option Nat → Hp → Prop} (C : CmI X mX5_leadingWords d0 mc0 ms0 pp) (hct : CtR mX5_ledToByWord d mc ms [va_rf (some b), a0, a1] h post) (hK : h.K b = 6) (hdd : d < d0) (hmc : cells + mc ≤ mc0) (hms : slots + ms ≤ ms0) (hcat : (rest.map fun v => v.category).sum ≤ 8) (kk : ∀ o h', post o h' → At X (cells + mc) (slots + ms) 31 ls (va_rf o :: rest) h') : At X cells slots 28 ls (a1 :: a0 :: va_rf (some b) :: rest) h :=
  st_callV (pc := 28) (M := mX5_ledToByWord) (idx := 72) (As := [a0, a1]) C.1 C.2.2.1 C.2.2.2.2.2.2 ⟨wM_RX5_72, wC_X5_ledToByWord, wI_RX5, by decide +kernel, by decide⟩ wV_X5_ledToByWord wS_X5_ledToByWord (ci := 5) (n := 2) rfl rfl (by decide) dX5_leadingWords_28 rfl hdd hcat hK hct hmc hms (fun v h2 hp => by obtain ⟨o, rfl, hp⟩ := hp; exact kk o h2 hp)
theorem sgX5_ledToByWord_0 {X : CX} {d mc ms cells slots : Nat} {pp : Option Nat → Hp → Prop} {h : Hp} {t : Nat} {o1 : Option Nat} {x2 : Int32}  (C : CmR X mX5_ledToByWord d mc ms pp) (hc : cells ≤ mc) (hs : slots ≤ ms) (h0 : h.K t = 6) (h1 : ∀ z0 : Nat, o1 = some z0 → h.K z0 = 1) (k0 : ∀ z0 : Nat, o1 = some z0 → At X cells slots 22 [some (va_rf (some t)), some (va_rf (some z0)), some (.int x2)] [.int ((h.I 2 z0) + x2), va_rf (h.R 501 t), va_rf (h.R 500 t)] h) (k1 : o1 = none → pp none h) : At X cells slots 0 [some (va_rf (some t)), some (va_rf o1), some (.int x2)] [] h := by
  refine st_aload_n (pc := 0) C.1 o1 dX5_ledToByWord_0 rfl rfl ?_
  refine st_ifnonnull (pc := 1) (o := o1) (tgt := 8) C.1 dX5_ledToByWord_1 (by decide) (fun z0 c0 => ?_) (fun c0 => ?_)
  · try rw [c0]
    refine st_aload_n (pc := 8) C.1 (some t) dX5_ledToByWord_8 rfl rfl ?_
    refine gR_RX5_7 (pc := 9) C.1 (h.R 500 t) dX5_ledToByWord_9 h0 rfl ?_
    refine st_aload_n (pc := 12) C.1 (some t) dX5_ledToByWord_12 rfl rfl ?_
    refine gR_RX5_13 (pc := 13) C.1 (h.R 501 t) dX5_ledToByWord_13 h0 rfl ?_
    refine st_aload_n (pc := 16) C.1 (some z0) dX5_ledToByWord_16 rfl rfl ?_
    refine gI_RX5_76 (pc := 17) C.1 (h.I 2 z0) dX5_ledToByWord_17 (h1 z0 c0) rfl ?_
    refine st_iload_n (pc := 20) C.1 dX5_ledToByWord_20 rfl rfl ?_
    refine st_iadd (pc := 21) C.1 dX5_ledToByWord_21 ?_
    exact (k0 z0 c0)
  · try rw [c0]
    refine st_nullq (pc := 4) C.1 dX5_ledToByWord_4 ?_
    refine st_goto (pc := 5) (tgt := 28) C.1 dX5_ledToByWord_5 (by decide) ?_
    exact rt_a C none rfl dX5_ledToByWord_28 hc hs ⟨_, rfl, (k1 c0)⟩

theorem sgX5_ledToByWord_25 {X : CX} {d mc ms cells slots : Nat} {pp : Option Nat → Hp → Prop} {h : Hp} {t : Nat} {o1 : Option Nat} {x2 : Int32} {u0 : Int32} {p1 : Option Nat}  (C : CmR X mX5_ledToByWord d mc ms pp)  (k0 : At X cells slots 25 [some (va_rf (some t)), some (va_rf o1), some (.int x2)] [.int u0, va_rf p1] h) : At X cells slots 25 [some (va_rf (some t)), some (va_rf o1), some (.int x2)] [.int u0, va_rf p1] h := by
  exact k0

theorem sgX5_ledToByWord_28 {X : CX} {d mc ms cells slots : Nat} {pp : Option Nat → Hp → Prop} {h : Hp} {t : Nat} {o1 : Option Nat} {x2 : Int32} {p0 : Option Nat}  (C : CmR X mX5_ledToByWord d mc ms pp) (hc : cells ≤ mc) (hs : slots ≤ ms)  (k0 : pp p0 h) : At X cells slots 28 [some (va_rf (some t)), some (va_rf o1), some (.int x2)] [va_rf p0] h := by
  exact rt_a C p0 rfl dX5_ledToByWord_28 hc hs ⟨_, rfl, k0⟩

theorem clX5_ledToByWord_22 {X : CX} {d0 mc0 ms0 d mc ms cells slots : Nat} {pp : Option Nat → Hp → Prop} {h : Hp} {ls : List (Option Value)} {rest : List Value} {b : Nat} {a0 : Value} {post : Int32 → Hp → Prop} (C : CmR X mX5_ledToByWord d0 mc0 ms0 pp) (hct : CtI mX6_read d mc ms [va_rf (some b), a0] h post) (hK : h.K b = 7) (hdd : d < d0) (hmc : cells + mc ≤ mc0) (hms : slots + ms ≤ ms0) (hcat : (rest.map fun v => v.category).sum ≤ 8) (kk : ∀ r h', post r h' → At X (cells + mc) (slots + ms) 25 ls (.int r :: rest) h') : At X cells slots 22 ls (a0 :: va_rf (some b) :: rest) h :=
  st_callV (pc := 22) (M := mX6_read) (idx := 79) (As := [a0]) C.1 C.2.2.1 C.2.2.2.2.2.2 ⟨wM_RX5_79, wC_X6_read, wI_RX6, by decide +kernel, by decide⟩ wV_X6_read wS_X6_read (ci := 6) (n := 1) rfl rfl (by decide) dX5_ledToByWord_22 rfl hdd hcat hK hct hmc hms (fun v h2 hp => by obtain ⟨r, rfl, hp⟩ := hp; exact kk r h2 hp)
theorem clX5_ledToByWord_25 {X : CX} {d0 mc0 ms0 d mc ms cells slots : Nat} {pp : Option Nat → Hp → Prop} {h : Hp} {ls : List (Option Value)} {rest : List Value} {b : Nat} {a0 : Value} {post : Option Nat → Hp → Prop} (C : CmR X mX5_ledToByWord d0 mc0 ms0 pp) (hct : CtR mX1_ledToBy d mc ms [va_rf (some b), a0] h post) (hK : h.K b = 2) (hdd : d < d0) (hmc : cells + mc ≤ mc0) (hms : slots + ms ≤ ms0) (hcat : (rest.map fun v => v.category).sum ≤ 8) (kk : ∀ o h', post o h' → At X (cells + mc) (slots + ms) 28 ls (va_rf o :: rest) h') : At X cells slots 25 ls (a0 :: va_rf (some b) :: rest) h :=
  st_callV (pc := 25) (M := mX1_ledToBy) (idx := 58) (As := [a0]) C.1 C.2.2.1 C.2.2.2.2.2.2 ⟨wM_RX5_58, wC_X1_ledToBy, wI_RX1, by decide +kernel, by decide⟩ wV_X1_ledToBy wS_X1_ledToBy (ci := 1) (n := 1) rfl rfl (by decide) dX5_ledToByWord_25 rfl hdd hcat hK hct hmc hms (fun v h2 hp => by obtain ⟨o, rfl, hp⟩ := hp; exact kk o h2 hp)
theorem sgX5_forgetReached_0 {X : CX} {d mc ms cells slots : Nat} {pp : Hp → Prop} {h : Hp} {t : Nat}  (C : CmV X mX5_forgetReached d mc ms pp) (h0 : h.K t = 6) (k0 : At X cells slots 7 [some (va_rf (some t)), some (.int 0), none] [] (h.sI 505 t 0)) : At X cells slots 0 [some (va_rf (some t)), none, none] [] h := by
  refine st_aload_n (pc := 0) C.1 (some t) dX5_forgetReached_0 rfl rfl ?_
  refine st_iconst (pc := 1) (v := 0) C.1 dX5_forgetReached_1 (by decide) ?_
  refine pI_RX5_41 (pc := 2) C.1 dX5_forgetReached_2 h0 ?_
  refine st_iconst (pc := 5) (v := 0) C.1 dX5_forgetReached_5 (by decide) ?_
  refine sv_istore_n (pc := 6) (i := 1) C.1 [some (va_rf (some t)), some (.int 0), none] dX5_forgetReached_6 rfl (Nat.le_of_ble_eq_true rfl) (by rw [C.2.1]; exact Nat.le_of_ble_eq_true rfl) rfl rfl ?_
  exact k0

theorem sgX5_forgetReached_7 {X : CX} {d mc ms cells slots : Nat} {pp : Hp → Prop} {h : Hp} {t : Nat} {x1 : Int32} {r0 : Nat} {r1 : Nat} (C : CmV X mX5_forgetReached d mc ms pp) (hc : cells ≤ mc) (hs : slots ≤ ms) (h0 : h.K t = 6) (h1 : h.R 500 t = some r0) (h2 : h.K r0 = 2) (h3 : h.R 100 r0 = some r1) (h4 : h.K r1 = 13) (k0 : nI (h.N r1) ≤ x1 → pp h) (k1 : ¬ nI (h.N r1) ≤ x1 → At X cells slots 24 [some (va_rf (some t)), some (.int x1), none] [.int x1, va_rf (some r0)] h) : At X cells slots 7 [some (va_rf (some t)), some (.int x1), none] [] h := by
  refine st_iload_n (pc := 7) C.1 dX5_forgetReached_7 rfl rfl ?_
  refine st_aload_n (pc := 8) C.1 (some t) dX5_forgetReached_8 rfl rfl ?_
  refine gR_RX5_7 (pc := 9) C.1 (some r0) dX5_forgetReached_9 h0 h1 ?_
  refine gR_RX5_21 (pc := 12) C.1 (some r1) dX5_forgetReached_12 h2 h3 ?_
  refine st_alen (pc := 15) C.1 dX5_forgetReached_15 (Or.inr (Or.inr (Or.inl h4))) ?_
  refine st_icmp_ge (pc := 16) (tgt := 43) C.1 dX5_forgetReached_16 (by decide) (fun c0 => ?_) (fun c0 => ?_)
  · exact rt_v C rfl dX5_forgetReached_43 hc hs ⟨rfl, (k0 c0)⟩
  · refine st_aload_n (pc := 19) C.1 (some t) dX5_forgetReached_19 rfl rfl ?_
    refine gR_RX5_7 (pc := 20) C.1 (some r0) dX5_forgetReached_20 h0 h1 ?_
    refine st_iload_n (pc := 23) C.1 dX5_forgetReached_23 rfl rfl ?_
    exact (k1 c0)

theorem sgX5_forgetReached_27 {X : CX} {d mc ms cells slots : Nat} {pp : Hp → Prop} {h : Hp} {t : Nat} {x1 : Int32} {p0 : Option Nat}  (C : CmV X mX5_forgetReached d mc ms pp) (h0 : ∀ z0 : Nat, p0 = some z0 → h.K z0 = 1) (k0 : p0 = none → At X cells slots 7 [some (va_rf (some t)), some (.int (x1 + 1)), some (va_rf none)] [] h) (k1 : ∀ z0 : Nat, p0 = some z0 → At X cells slots 7 [some (va_rf (some t)), some (.int (x1 + 1)), some (va_rf (some z0))] [] (h.sI 6 z0 0)) : At X cells slots 27 [some (va_rf (some t)), some (.int x1), none] [va_rf p0] h := by
  refine sv_astore_n (pc := 27) (i := 2) C.1 [some (va_rf (some t)), some (.int x1), some (va_rf p0)] p0 dX5_forgetReached_27 rfl (Nat.le_of_ble_eq_true rfl) (by rw [C.2.1]; exact Nat.le_of_ble_eq_true rfl) rfl rfl ?_
  refine st_aload_n (pc := 28) C.1 p0 dX5_forgetReached_28 rfl rfl ?_
  refine st_ifnull (pc := 29) (o := p0) (tgt := 37) C.1 dX5_forgetReached_29 (by decide) (fun c0 => ?_) (fun z0 c0 => ?_)
  · try rw [c0]
    refine sv_iinc (pc := 37) (i := 1) (v := x1 + 1) C.1 [some (va_rf (some t)), some (.int (x1 + 1)), some (va_rf none)] dX5_forgetReached_37 rfl rfl (by rw [C.2.1]; exact Nat.le_of_ble_eq_true rfl) rfl rfl ?_
    refine st_goto (pc := 40) (tgt := 7) C.1 dX5_forgetReached_40 (by decide) ?_
    exact (k0 c0)
  · try rw [c0]
    refine st_aload_n (pc := 32) C.1 (some z0) dX5_forgetReached_32 rfl rfl ?_
    refine st_iconst (pc := 33) (v := 0) C.1 dX5_forgetReached_33 (by decide) ?_
    refine pI_RX5_85 (pc := 34) C.1 dX5_forgetReached_34 (h0 z0 c0) (Or.inl rfl) ?_
    refine sv_iinc (pc := 37) (i := 1) (v := x1 + 1) C.1 [some (va_rf (some t)), some (.int (x1 + 1)), some (va_rf (some z0))] dX5_forgetReached_37 rfl rfl (by rw [C.2.1]; exact Nat.le_of_ble_eq_true rfl) rfl rfl ?_
    refine st_goto (pc := 40) (tgt := 7) C.1 dX5_forgetReached_40 (by decide) ?_
    exact (k1 z0 c0)

theorem clX5_forgetReached_24 {X : CX} {d0 mc0 ms0 d mc ms cells slots : Nat} {pp : Hp → Prop} {h : Hp} {ls : List (Option Value)} {rest : List Value} {b : Nat} {a0 : Value} {post : Option Nat → Hp → Prop} (C : CmV X mX5_forgetReached d0 mc0 ms0 pp) (hct : CtR mX1_liveFromUnit d mc ms [va_rf (some b), a0] h post) (hK : h.K b = 2) (hdd : d < d0) (hmc : cells + mc ≤ mc0) (hms : slots + ms ≤ ms0) (hcat : (rest.map fun v => v.category).sum ≤ 8) (kk : ∀ o h', post o h' → At X (cells + mc) (slots + ms) 27 ls (va_rf o :: rest) h') : At X cells slots 24 ls (a0 :: va_rf (some b) :: rest) h :=
  st_callV (pc := 24) (M := mX1_liveFromUnit) (idx := 62) (As := [a0]) C.1 C.2.2.1 C.2.2.2.2.2.2 ⟨wM_RX5_62, wC_X1_liveFromUnit, wI_RX1, by decide +kernel, by decide⟩ wV_X1_liveFromUnit wS_X1_liveFromUnit (ci := 1) (n := 1) rfl rfl (by decide) dX5_forgetReached_24 rfl hdd hcat hK hct hmc hms (fun v h2 hp => by obtain ⟨o, rfl, hp⟩ := hp; exact kk o h2 hp)
theorem sgX5_reachFromRoots_0 {X : CX} {d mc ms cells slots : Nat} {pp : Hp → Prop} {h : Hp} {t : Nat}  (C : CmV X mX5_reachFromRoots d mc ms pp)  (k0 : At X cells slots 2 [some (va_rf (some t)), some (.int 0)] [] h) : At X cells slots 0 [some (va_rf (some t)), none] [] h := by
  refine st_iconst (pc := 0) (v := 0) C.1 dX5_reachFromRoots_0 (by decide) ?_
  refine sv_istore_n (pc := 1) (i := 1) C.1 [some (va_rf (some t)), some (.int 0)] dX5_reachFromRoots_1 rfl (Nat.le_of_ble_eq_true rfl) (by rw [C.2.1]; exact Nat.le_of_ble_eq_true rfl) rfl rfl ?_
  exact k0

theorem sgX5_reachFromRoots_2 {X : CX} {d mc ms cells slots : Nat} {pp : Hp → Prop} {h : Hp} {t : Nat} {x1 : Int32} {r0 : Nat} (C : CmV X mX5_reachFromRoots d mc ms pp) (hc : cells ≤ mc) (hs : slots ≤ ms) (h0 : h.K t = 6) (h1 : h.R 502 t = some r0) (h2 : h.K r0 = 11) (h3 : ¬ nI (h.N r0) ≤ x1 → vp_in x1 (h.N r0)) (k0 : nI (h.N r0) ≤ x1 → pp h) (k1 : ¬ nI (h.N r0) ≤ x1 → At X cells slots 22 [some (va_rf (some t)), some (.int x1)] [.int (h.AI r0 (x1.toNatClampNeg)), va_rf (h.R 500 t), va_rf (some t)] h) : At X cells slots 2 [some (va_rf (some t)), some (.int x1)] [] h := by
  refine st_iload_n (pc := 2) C.1 dX5_reachFromRoots_2 rfl rfl ?_
  refine st_aload_n (pc := 3) C.1 (some t) dX5_reachFromRoots_3 rfl rfl ?_
  refine gR_RX5_17 (pc := 4) C.1 (some r0) dX5_reachFromRoots_4 h0 h1 ?_
  refine st_alen (pc := 7) C.1 dX5_reachFromRoots_7 (Or.inl h2) ?_
  refine st_icmp_ge (pc := 8) (tgt := 34) C.1 dX5_reachFromRoots_8 (by decide) (fun c0 => ?_) (fun c0 => ?_)
  · exact rt_v C rfl dX5_reachFromRoots_34 hc hs ⟨rfl, (k0 c0)⟩
  · refine st_aload_n (pc := 11) C.1 (some t) dX5_reachFromRoots_11 rfl rfl ?_
    refine st_aload_n (pc := 12) C.1 (some t) dX5_reachFromRoots_12 rfl rfl ?_
    refine gR_RX5_7 (pc := 13) C.1 (h.R 500 t) dX5_reachFromRoots_13 h0 rfl ?_
    refine st_aload_n (pc := 16) C.1 (some t) dX5_reachFromRoots_16 rfl rfl ?_
    refine gR_RX5_17 (pc := 17) C.1 (some r0) dX5_reachFromRoots_17 h0 h1 ?_
    refine st_iload_n (pc := 20) C.1 dX5_reachFromRoots_20 rfl rfl ?_
    refine sv_iaload (pc := 21) C.1 (h.AI r0 (x1.toNatClampNeg)) dX5_reachFromRoots_21 h2 (h3 c0) rfl ?_
    exact (k1 c0)

theorem sgX5_reachFromRoots_25 {X : CX} {d mc ms cells slots : Nat} {pp : Hp → Prop} {h : Hp} {t : Nat} {x1 : Int32} {p0 : Option Nat} {p1 : Option Nat}  (C : CmV X mX5_reachFromRoots d mc ms pp)  (k0 : At X cells slots 25 [some (va_rf (some t)), some (.int x1)] [va_rf p0, va_rf p1] h) : At X cells slots 25 [some (va_rf (some t)), some (.int x1)] [va_rf p0, va_rf p1] h := by
  exact k0

theorem sgX5_reachFromRoots_28 {X : CX} {d mc ms cells slots : Nat} {pp : Hp → Prop} {h : Hp} {t : Nat} {x1 : Int32}  (C : CmV X mX5_reachFromRoots d mc ms pp)  (k0 : At X cells slots 2 [some (va_rf (some t)), some (.int (x1 + 1))] [] h) : At X cells slots 28 [some (va_rf (some t)), some (.int x1)] [] h := by
  refine sv_iinc (pc := 28) (i := 1) (v := x1 + 1) C.1 [some (va_rf (some t)), some (.int (x1 + 1))] dX5_reachFromRoots_28 rfl rfl (by rw [C.2.1]; exact Nat.le_of_ble_eq_true rfl) rfl rfl ?_
  refine st_goto (pc := 31) (tgt := 2) C.1 dX5_reachFromRoots_31 (by decide) ?_
  exact k0

theorem clX5_reachFromRoots_22 {X : CX} {d0 mc0 ms0 d mc ms cells slots : Nat} {pp : Hp → Prop} {h : Hp} {ls : List (Option Value)} {rest : List Value} {b : Nat} {a0 : Value} {post : Option Nat → Hp → Prop} (C : CmV X mX5_reachFromRoots d0 mc0 ms0 pp) (hct : CtR mX1_ledToBy d mc ms [va_rf (some b), a0] h post) (hK : h.K b = 2) (hdd : d < d0) (hmc : cells + mc ≤ mc0) (hms : slots + ms ≤ ms0) (hcat : (rest.map fun v => v.category).sum ≤ 8) (kk : ∀ o h', post o h' → At X (cells + mc) (slots + ms) 25 ls (va_rf o :: rest) h') : At X cells slots 22 ls (a0 :: va_rf (some b) :: rest) h :=
  st_callV (pc := 22) (M := mX1_ledToBy) (idx := 58) (As := [a0]) C.1 C.2.2.1 C.2.2.2.2.2.2 ⟨wM_RX5_58, wC_X1_ledToBy, wI_RX1, by decide +kernel, by decide⟩ wV_X1_ledToBy wS_X1_ledToBy (ci := 1) (n := 1) rfl rfl (by decide) dX5_reachFromRoots_22 rfl hdd hcat hK hct hmc hms (fun v h2 hp => by obtain ⟨o, rfl, hp⟩ := hp; exact kk o h2 hp)
theorem clX5_reachFromRoots_25 {X : CX} {d0 mc0 ms0 d mc ms cells slots : Nat} {pp : Hp → Prop} {h : Hp} {ls : List (Option Value)} {rest : List Value} {b : Nat} {a0 : Value} {post : Hp → Prop} (C : CmV X mX5_reachFromRoots d0 mc0 ms0 pp) (hct : CtV mX5_reach d mc ms [va_rf (some b), a0] h post) (hK : h.K b = 6) (hdd : d < d0) (hmc : cells + mc ≤ mc0) (hms : slots + ms ≤ ms0) (hcat : (rest.map fun v => v.category).sum ≤ 8) (kk : ∀ h', post h' → At X (cells + mc) (slots + ms) 28 ls rest h') : At X cells slots 25 ls (a0 :: va_rf (some b) :: rest) h :=
  st_callV (pc := 25) (M := mX5_reach) (idx := 88) (As := [a0]) C.1 C.2.2.1 C.2.2.2.2.2.2 ⟨wM_RX5_88, wC_X5_reach, wI_RX5, by decide +kernel, by decide⟩ wV_X5_reach wS_X5_reach (ci := 5) (n := 1) rfl rfl (by decide) dX5_reachFromRoots_25 rfl hdd hcat hK hct hmc hms (fun v h2 hp => by obtain ⟨rfl, hp⟩ := hp; exact kk h2 hp)
theorem sgX5_reachFromBlock_0 {X : CX} {d mc ms cells slots : Nat} {pp : Hp → Prop} {h : Hp} {t : Nat} {o1 : Option Nat}  (C : CmV X mX5_reachFromBlock d mc ms pp) (h0 : ∀ z0 : Nat, o1 = some z0 → h.K z0 = 1) (k0 : ∀ z0 : Nat, o1 = some z0 → At X cells slots 15 [some (va_rf (some t)), some (va_rf (some z0)), some (.int (h.I 3 z0)), some (.int 0)] [] h) (k1 : o1 = none → At X cells slots 15 [some (va_rf (some t)), some (va_rf none), some (.int 0), some (.int 0)] [] h) : At X cells slots 0 [some (va_rf (some t)), some (va_rf o1), none, none] [] h := by
  refine st_aload_n (pc := 0) C.1 o1 dX5_reachFromBlock_0 rfl rfl ?_
  refine st_ifnonnull (pc := 1) (o := o1) (tgt := 8) C.1 dX5_reachFromBlock_1 (by decide) (fun z0 c0 => ?_) (fun c0 => ?_)
  · try rw [c0]
    refine st_aload_n (pc := 8) C.1 (some z0) dX5_reachFromBlock_8 rfl rfl ?_
    refine gI_RX5_69 (pc := 9) C.1 (h.I 3 z0) dX5_reachFromBlock_9 (h0 z0 c0) rfl ?_
    refine sv_istore_n (pc := 12) (i := 2) C.1 [some (va_rf (some t)), some (va_rf (some z0)), some (.int (h.I 3 z0)), none] dX5_reachFromBlock_12 rfl (Nat.le_of_ble_eq_true rfl) (by rw [C.2.1]; exact Nat.le_of_ble_eq_true rfl) rfl rfl ?_
    refine st_iconst (pc := 13) (v := 0) C.1 dX5_reachFromBlock_13 (by decide) ?_
    refine sv_istore_n (pc := 14) (i := 3) C.1 [some (va_rf (some t)), some (va_rf (some z0)), some (.int (h.I 3 z0)), some (.int 0)] dX5_reachFromBlock_14 rfl (Nat.le_of_ble_eq_true rfl) (by rw [C.2.1]; exact Nat.le_of_ble_eq_true rfl) rfl rfl ?_
    exact (k0 z0 c0)
  · try rw [c0]
    refine st_iconst (pc := 4) (v := 0) C.1 dX5_reachFromBlock_4 (by decide) ?_
    refine st_goto (pc := 5) (tgt := 12) C.1 dX5_reachFromBlock_5 (by decide) ?_
    refine sv_istore_n (pc := 12) (i := 2) C.1 [some (va_rf (some t)), some (va_rf none), some (.int 0), none] dX5_reachFromBlock_12 rfl (Nat.le_of_ble_eq_true rfl) (by rw [C.2.1]; exact Nat.le_of_ble_eq_true rfl) rfl rfl ?_
    refine st_iconst (pc := 13) (v := 0) C.1 dX5_reachFromBlock_13 (by decide) ?_
    refine sv_istore_n (pc := 14) (i := 3) C.1 [some (va_rf (some t)), some (va_rf none), some (.int 0), some (.int 0)] dX5_reachFromBlock_14 rfl (Nat.le_of_ble_eq_true rfl) (by rw [C.2.1]; exact Nat.le_of_ble_eq_true rfl) rfl rfl ?_
    exact (k1 c0)

theorem sgX5_reachFromBlock_15 {X : CX} {d mc ms cells slots : Nat} {pp : Hp → Prop} {h : Hp} {t : Nat} {o1 : Option Nat} {x2 : Int32} {x3 : Int32}  (C : CmV X mX5_reachFromBlock d mc ms pp) (hc : cells ≤ mc) (hs : slots ≤ ms)  (k0 : x2 ≤ x3 → pp h) (k1 : ¬ x2 ≤ x3 → At X cells slots 24 [some (va_rf (some t)), some (va_rf o1), some (.int x2), some (.int x3)] [.int x3, va_rf o1, va_rf (some t), va_rf (some t)] h) : At X cells slots 15 [some (va_rf (some t)), some (va_rf o1), some (.int x2), some (.int x3)] [] h := by
  refine st_iload_n (pc := 15) C.1 dX5_reachFromBlock_15 rfl rfl ?_
  refine st_iload_n (pc := 16) C.1 dX5_reachFromBlock_16 rfl rfl ?_
  refine st_icmp_ge (pc := 17) (tgt := 36) C.1 dX5_reachFromBlock_17 (by decide) (fun c0 => ?_) (fun c0 => ?_)
  · exact rt_v C rfl dX5_reachFromBlock_36 hc hs ⟨rfl, (k0 c0)⟩
  · refine st_aload_n (pc := 20) C.1 (some t) dX5_reachFromBlock_20 rfl rfl ?_
    refine st_aload_n (pc := 21) C.1 (some t) dX5_reachFromBlock_21 rfl rfl ?_
    refine st_aload_n (pc := 22) C.1 o1 dX5_reachFromBlock_22 rfl rfl ?_
    refine st_iload_n (pc := 23) C.1 dX5_reachFromBlock_23 rfl rfl ?_
    exact (k1 c0)

theorem sgX5_reachFromBlock_27 {X : CX} {d mc ms cells slots : Nat} {pp : Hp → Prop} {h : Hp} {t : Nat} {o1 : Option Nat} {x2 : Int32} {x3 : Int32} {p0 : Option Nat} {p1 : Option Nat}  (C : CmV X mX5_reachFromBlock d mc ms pp)  (k0 : At X cells slots 27 [some (va_rf (some t)), some (va_rf o1), some (.int x2), some (.int x3)] [va_rf p0, va_rf p1] h) : At X cells slots 27 [some (va_rf (some t)), some (va_rf o1), some (.int x2), some (.int x3)] [va_rf p0, va_rf p1] h := by
  exact k0

theorem sgX5_reachFromBlock_30 {X : CX} {d mc ms cells slots : Nat} {pp : Hp → Prop} {h : Hp} {t : Nat} {o1 : Option Nat} {x2 : Int32} {x3 : Int32}  (C : CmV X mX5_reachFromBlock d mc ms pp)  (k0 : At X cells slots 15 [some (va_rf (some t)), some (va_rf o1), some (.int x2), some (.int (x3 + 1))] [] h) : At X cells slots 30 [some (va_rf (some t)), some (va_rf o1), some (.int x2), some (.int x3)] [] h := by
  refine sv_iinc (pc := 30) (i := 3) (v := x3 + 1) C.1 [some (va_rf (some t)), some (va_rf o1), some (.int x2), some (.int (x3 + 1))] dX5_reachFromBlock_30 rfl rfl (by rw [C.2.1]; exact Nat.le_of_ble_eq_true rfl) rfl rfl ?_
  refine st_goto (pc := 33) (tgt := 15) C.1 dX5_reachFromBlock_33 (by decide) ?_
  exact k0

theorem clX5_reachFromBlock_24 {X : CX} {d0 mc0 ms0 d mc ms cells slots : Nat} {pp : Hp → Prop} {h : Hp} {ls : List (Option Value)} {rest : List Value} {b : Nat} {a0 a1 : Value} {post : Option Nat → Hp → Prop} (C : CmV X mX5_reachFromBlock d0 mc0 ms0 pp) (hct : CtR mX5_ledToByWord d mc ms [va_rf (some b), a0, a1] h post) (hK : h.K b = 6) (hdd : d < d0) (hmc : cells + mc ≤ mc0) (hms : slots + ms ≤ ms0) (hcat : (rest.map fun v => v.category).sum ≤ 8) (kk : ∀ o h', post o h' → At X (cells + mc) (slots + ms) 27 ls (va_rf o :: rest) h') : At X cells slots 24 ls (a1 :: a0 :: va_rf (some b) :: rest) h :=
  st_callV (pc := 24) (M := mX5_ledToByWord) (idx := 72) (As := [a0, a1]) C.1 C.2.2.1 C.2.2.2.2.2.2 ⟨wM_RX5_72, wC_X5_ledToByWord, wI_RX5, by decide +kernel, by decide⟩ wV_X5_ledToByWord wS_X5_ledToByWord (ci := 5) (n := 2) rfl rfl (by decide) dX5_reachFromBlock_24 rfl hdd hcat hK hct hmc hms (fun v h2 hp => by obtain ⟨o, rfl, hp⟩ := hp; exact kk o h2 hp)
theorem clX5_reachFromBlock_27 {X : CX} {d0 mc0 ms0 d mc ms cells slots : Nat} {pp : Hp → Prop} {h : Hp} {ls : List (Option Value)} {rest : List Value} {b : Nat} {a0 : Value} {post : Hp → Prop} (C : CmV X mX5_reachFromBlock d0 mc0 ms0 pp) (hct : CtV mX5_reach d mc ms [va_rf (some b), a0] h post) (hK : h.K b = 6) (hdd : d < d0) (hmc : cells + mc ≤ mc0) (hms : slots + ms ≤ ms0) (hcat : (rest.map fun v => v.category).sum ≤ 8) (kk : ∀ h', post h' → At X (cells + mc) (slots + ms) 30 ls rest h') : At X cells slots 27 ls (a0 :: va_rf (some b) :: rest) h :=
  st_callV (pc := 27) (M := mX5_reach) (idx := 88) (As := [a0]) C.1 C.2.2.1 C.2.2.2.2.2.2 ⟨wM_RX5_88, wC_X5_reach, wI_RX5, by decide +kernel, by decide⟩ wV_X5_reach wS_X5_reach (ci := 5) (n := 1) rfl rfl (by decide) dX5_reachFromBlock_27 rfl hdd hcat hK hct hmc hms (fun v h2 hp => by obtain ⟨rfl, hp⟩ := hp; exact kk h2 hp)
theorem sgX5_reach_0 {X : CX} {d mc ms cells slots : Nat} {pp : Hp → Prop} {h : Hp} {t : Nat} {o1 : Option Nat} {r0 : Nat} (C : CmV X mX5_reach d mc ms pp) (hc : cells ≤ mc) (hs : slots ≤ ms) (h0 : ∀ z0 : Nat, o1 = some z0 → h.K z0 = 1) (h1 : h.K t = 6) (h2 : h.R 503 t = some r0) (h3 : h.K r0 = 13) (h4 : ∀ z0 : Nat, o1 = some z0 → h.I 6 z0 = 0 → h.I 505 t < nI (h.N r0) → h.K z0 = 1) (h5 : ∀ z0 : Nat, o1 = some z0 → h.I 6 z0 = 0 → h.I 505 t < nI (h.N r0) → vp_in (h.I 505 t) (h.N r0)) (h6 : ∀ z0 : Nat, o1 = some z0 → h.I 6 z0 = 0 → h.I 505 t < nI (h.N r0) → ∀ vv, some z0 = some vv → h.K vv = 1) (k0 : o1 = none → pp h) (k1 : ∀ z0 : Nat, o1 = some z0 → ¬ h.I 6 z0 = 0 → pp h) (k2 : ∀ z0 : Nat, o1 = some z0 → h.I 6 z0 = 0 → h.I 505 t < nI (h.N r0) → pp (((h.sI 6 z0 1).sAR r0 ((h.I 505 t).toNatClampNeg) (some z0)).sI 505 t ((h.I 505 t) + 1))) (k3 : ∀ z0 : Nat, o1 = some z0 → h.I 6 z0 = 0 → ¬ h.I 505 t < nI (h.N r0) → pp h) : At X cells slots 0 [some (va_rf (some t)), some (va_rf o1)] [] h := by
  refine st_aload_n (pc := 0) C.1 o1 dX5_reach_0 rfl rfl ?_
  refine st_ifnull (pc := 1) (o := o1) (tgt := 23) C.1 dX5_reach_1 (by decide) (fun c0 => ?_) (fun z0 c0 => ?_)
  · try rw [c0]
    exact rt_v C rfl dX5_reach_23 hc hs ⟨rfl, (k0 c0)⟩
  · try rw [c0]
    refine st_aload_n (pc := 4) C.1 (some z0) dX5_reach_4 rfl rfl ?_
    refine gI_RX5_85 (pc := 5) C.1 (h.I 6 z0) dX5_reach_5 (h0 z0 c0) rfl ?_
    refine st_if_ne (pc := 8) (tgt := 23) C.1 dX5_reach_8 (by decide) (fun c1 => ?_) (fun c1 => ?_)
    · exact rt_v C rfl dX5_reach_23 hc hs ⟨rfl, (k1 z0 c0 c1)⟩
    · refine st_aload_n (pc := 11) C.1 (some t) dX5_reach_11 rfl rfl ?_
      refine gI_RX5_41 (pc := 12) C.1 (h.I 505 t) dX5_reach_12 h1 rfl ?_
      refine st_aload_n (pc := 15) C.1 (some t) dX5_reach_15 rfl rfl ?_
      refine gR_RX5_29 (pc := 16) C.1 (some r0) dX5_reach_16 h1 h2 ?_
      refine st_alen (pc := 19) C.1 dX5_reach_19 (Or.inr (Or.inr (Or.inl h3))) ?_
      refine st_icmp_lt (pc := 20) (tgt := 24) C.1 dX5_reach_20 (by decide) (fun c2 => ?_) (fun c2 => ?_)
      · refine st_aload_n (pc := 24) C.1 (some z0) dX5_reach_24 rfl rfl ?_
        refine st_iconst (pc := 25) (v := 1) C.1 dX5_reach_25 (by decide) ?_
        refine pI_RX5_85 (pc := 26) C.1 dX5_reach_26 (h4 z0 c0 c1 c2) (Or.inr rfl) ?_
        refine st_aload_n (pc := 29) C.1 (some t) dX5_reach_29 rfl rfl ?_
        refine gR_RX5_29 (pc := 30) C.1 (some r0) dX5_reach_30 h1 h2 ?_
        refine st_aload_n (pc := 33) C.1 (some t) dX5_reach_33 rfl rfl ?_
        refine gI_RX5_41 (pc := 34) C.1 (h.I 505 t) dX5_reach_34 h1 rfl ?_
        refine st_aload_n (pc := 37) C.1 (some z0) dX5_reach_37 rfl rfl ?_
        refine st_aastore (pc := 38) C.1 (some z0) dX5_reach_38 (Or.inl ⟨h3, (h6 z0 c0 c1 c2)⟩) (h5 z0 c0 c1 c2) ?_
        refine st_aload_n (pc := 39) C.1 (some t) dX5_reach_39 rfl rfl ?_
        refine st_dup (pc := 40) C.1 dX5_reach_40 (rf_cat (some t)) ?_
        refine gI_RX5_41 (pc := 41) C.1 (h.I 505 t) dX5_reach_41 h1 rfl ?_
        refine st_iconst (pc := 44) (v := 1) C.1 dX5_reach_44 (by decide) ?_
        refine st_iadd (pc := 45) C.1 dX5_reach_45 ?_
        refine pI_RX5_41 (pc := 46) C.1 dX5_reach_46 h1 ?_
        exact rt_v C rfl dX5_reach_49 hc hs ⟨rfl, (k2 z0 c0 c1 c2)⟩
      · exact rt_v C rfl dX5_reach_23 hc hs ⟨rfl, (k3 z0 c0 c1 c2)⟩

theorem sgX5_keepLost_0 {X : CX} {d mc ms cells slots : Nat} {pp : Hp → Prop} {h : Hp} {t : Nat}  (C : CmV X mX5_keepLost d mc ms pp) (h0 : h.K t = 6) (k0 : At X cells slots 7 [some (va_rf (some t)), some (.int 0), none] [] (h.sI 506 t 0)) : At X cells slots 0 [some (va_rf (some t)), none, none] [] h := by
  refine st_aload_n (pc := 0) C.1 (some t) dX5_keepLost_0 rfl rfl ?_
  refine st_iconst (pc := 1) (v := 0) C.1 dX5_keepLost_1 (by decide) ?_
  refine pI_RX5_52 (pc := 2) C.1 dX5_keepLost_2 h0 ?_
  refine st_iconst (pc := 5) (v := 0) C.1 dX5_keepLost_5 (by decide) ?_
  refine sv_istore_n (pc := 6) (i := 1) C.1 [some (va_rf (some t)), some (.int 0), none] dX5_keepLost_6 rfl (Nat.le_of_ble_eq_true rfl) (by rw [C.2.1]; exact Nat.le_of_ble_eq_true rfl) rfl rfl ?_
  exact k0

theorem sgX5_keepLost_7 {X : CX} {d mc ms cells slots : Nat} {pp : Hp → Prop} {h : Hp} {t : Nat} {x1 : Int32} {r0 : Nat} {r1 : Nat} (C : CmV X mX5_keepLost d mc ms pp) (hc : cells ≤ mc) (hs : slots ≤ ms) (h0 : h.K t = 6) (h1 : h.R 500 t = some r0) (h2 : h.K r0 = 2) (h3 : h.R 100 r0 = some r1) (h4 : h.K r1 = 13) (k0 : nI (h.N r1) ≤ x1 → pp h) (k1 : ¬ nI (h.N r1) ≤ x1 → At X cells slots 24 [some (va_rf (some t)), some (.int x1), none] [.int x1, va_rf (some r0)] h) : At X cells slots 7 [some (va_rf (some t)), some (.int x1), none] [] h := by
  refine st_iload_n (pc := 7) C.1 dX5_keepLost_7 rfl rfl ?_
  refine st_aload_n (pc := 8) C.1 (some t) dX5_keepLost_8 rfl rfl ?_
  refine gR_RX5_7 (pc := 9) C.1 (some r0) dX5_keepLost_9 h0 h1 ?_
  refine gR_RX5_21 (pc := 12) C.1 (some r1) dX5_keepLost_12 h2 h3 ?_
  refine st_alen (pc := 15) C.1 dX5_keepLost_15 (Or.inr (Or.inr (Or.inl h4))) ?_
  refine st_icmp_ge (pc := 16) (tgt := 82) C.1 dX5_keepLost_16 (by decide) (fun c0 => ?_) (fun c0 => ?_)
  · exact rt_v C rfl dX5_keepLost_82 hc hs ⟨rfl, (k0 c0)⟩
  · refine st_aload_n (pc := 19) C.1 (some t) dX5_keepLost_19 rfl rfl ?_
    refine gR_RX5_7 (pc := 20) C.1 (some r0) dX5_keepLost_20 h0 h1 ?_
    refine st_iload_n (pc := 23) C.1 dX5_keepLost_23 rfl rfl ?_
    exact (k1 c0)

theorem sgX5_keepLost_27 {X : CX} {d mc ms cells slots : Nat} {pp : Hp → Prop} {h : Hp} {t : Nat} {x1 : Int32} {p0 : Option Nat} {r0 : Nat} (C : CmV X mX5_keepLost d mc ms pp) (h0 : ∀ z0 : Nat, p0 = some z0 → h.K z0 = 1) (h1 : h.K t = 6) (h2 : h.R 504 t = some r0) (h3 : h.K r0 = 13) (h4 : ∀ z0 : Nat, p0 = some z0 → h.I 6 z0 = 0 → ¬ nI (h.N r0) ≤ h.I 506 t → h.K z0 = 1) (h5 : ∀ z0 : Nat, p0 = some z0 → h.I 6 z0 = 0 → ¬ nI (h.N r0) ≤ h.I 506 t → vp_in (h.I 506 t) (h.N r0)) (h6 : ∀ z0 : Nat, p0 = some z0 → h.I 6 z0 = 0 → ¬ nI (h.N r0) ≤ h.I 506 t → ∀ vv, some z0 = some vv → h.K vv = 1) (k0 : p0 = none → At X cells slots 7 [some (va_rf (some t)), some (.int (x1 + 1)), some (va_rf none)] [] h) (k1 : ∀ z0 : Nat, p0 = some z0 → ¬ h.I 6 z0 = 0 → At X cells slots 7 [some (va_rf (some t)), some (.int (x1 + 1)), some (va_rf (some z0))] [] h) (k2 : ∀ z0 : Nat, p0 = some z0 → h.I 6 z0 = 0 → nI (h.N r0) ≤ h.I 506 t → At X cells slots 7 [some (va_rf (some t)), some (.int (x1 + 1)), some (va_rf (some z0))] [] h) (k3 : ∀ z0 : Nat, p0 = some z0 → h.I 6 z0 = 0 → ¬ nI (h.N r0) ≤ h.I 506 t → At X cells slots 7 [some (va_rf (some t)), some (.int (x1 + 1)), some (va_rf (some z0))] [] (((h.sI 7 z0 1).sAR r0 ((h.I 506 t).toNatClampNeg) (some z0)).sI 506 t ((h.I 506 t) + 1))) : At X cells slots 27 [some (va_rf (some t)), some (.int x1), none] [va_rf p0] h := by
  refine sv_astore_n (pc := 27) (i := 2) C.1 [some (va_rf (some t)), some (.int x1), some (va_rf p0)] p0 dX5_keepLost_27 rfl (Nat.le_of_ble_eq_true rfl) (by rw [C.2.1]; exact Nat.le_of_ble_eq_true rfl) rfl rfl ?_
  refine st_aload_n (pc := 28) C.1 p0 dX5_keepLost_28 rfl rfl ?_
  refine st_ifnull (pc := 29) (o := p0) (tgt := 76) C.1 dX5_keepLost_29 (by decide) (fun c0 => ?_) (fun z0 c0 => ?_)
  · try rw [c0]
    refine sv_iinc (pc := 76) (i := 1) (v := x1 + 1) C.1 [some (va_rf (some t)), some (.int (x1 + 1)), some (va_rf none)] dX5_keepLost_76 rfl rfl (by rw [C.2.1]; exact Nat.le_of_ble_eq_true rfl) rfl rfl ?_
    refine st_goto (pc := 79) (tgt := 7) C.1 dX5_keepLost_79 (by decide) ?_
    exact (k0 c0)
  · try rw [c0]
    refine st_aload_n (pc := 32) C.1 (some z0) dX5_keepLost_32 rfl rfl ?_
    refine gI_RX5_85 (pc := 33) C.1 (h.I 6 z0) dX5_keepLost_33 (h0 z0 c0) rfl ?_
    refine st_if_ne (pc := 36) (tgt := 76) C.1 dX5_keepLost_36 (by decide) (fun c1 => ?_) (fun c1 => ?_)
    · refine sv_iinc (pc := 76) (i := 1) (v := x1 + 1) C.1 [some (va_rf (some t)), some (.int (x1 + 1)), some (va_rf (some z0))] dX5_keepLost_76 rfl rfl (by rw [C.2.1]; exact Nat.le_of_ble_eq_true rfl) rfl rfl ?_
      refine st_goto (pc := 79) (tgt := 7) C.1 dX5_keepLost_79 (by decide) ?_
      exact (k1 z0 c0 c1)
    · refine st_aload_n (pc := 39) C.1 (some t) dX5_keepLost_39 rfl rfl ?_
      refine gI_RX5_52 (pc := 40) C.1 (h.I 506 t) dX5_keepLost_40 h1 rfl ?_
      refine st_aload_n (pc := 43) C.1 (some t) dX5_keepLost_43 rfl rfl ?_
      refine gR_RX5_32 (pc := 44) C.1 (some r0) dX5_keepLost_44 h1 h2 ?_
      refine st_alen (pc := 47) C.1 dX5_keepLost_47 (Or.inr (Or.inr (Or.inl h3))) ?_
      refine st_icmp_ge (pc := 48) (tgt := 76) C.1 dX5_keepLost_48 (by decide) (fun c2 => ?_) (fun c2 => ?_)
      · refine sv_iinc (pc := 76) (i := 1) (v := x1 + 1) C.1 [some (va_rf (some t)), some (.int (x1 + 1)), some (va_rf (some z0))] dX5_keepLost_76 rfl rfl (by rw [C.2.1]; exact Nat.le_of_ble_eq_true rfl) rfl rfl ?_
        refine st_goto (pc := 79) (tgt := 7) C.1 dX5_keepLost_79 (by decide) ?_
        exact (k2 z0 c0 c1 c2)
      · refine st_aload_n (pc := 51) C.1 (some z0) dX5_keepLost_51 rfl rfl ?_
        refine st_iconst (pc := 52) (v := 1) C.1 dX5_keepLost_52 (by decide) ?_
        refine pI_RX5_91 (pc := 53) C.1 dX5_keepLost_53 (h4 z0 c0 c1 c2) (Or.inr rfl) ?_
        refine st_aload_n (pc := 56) C.1 (some t) dX5_keepLost_56 rfl rfl ?_
        refine gR_RX5_32 (pc := 57) C.1 (some r0) dX5_keepLost_57 h1 h2 ?_
        refine st_aload_n (pc := 60) C.1 (some t) dX5_keepLost_60 rfl rfl ?_
        refine gI_RX5_52 (pc := 61) C.1 (h.I 506 t) dX5_keepLost_61 h1 rfl ?_
        refine st_aload_n (pc := 64) C.1 (some z0) dX5_keepLost_64 rfl rfl ?_
        refine st_aastore (pc := 65) C.1 (some z0) dX5_keepLost_65 (Or.inl ⟨h3, (h6 z0 c0 c1 c2)⟩) (h5 z0 c0 c1 c2) ?_
        refine st_aload_n (pc := 66) C.1 (some t) dX5_keepLost_66 rfl rfl ?_
        refine st_dup (pc := 67) C.1 dX5_keepLost_67 (rf_cat (some t)) ?_
        refine gI_RX5_52 (pc := 68) C.1 (h.I 506 t) dX5_keepLost_68 h1 rfl ?_
        refine st_iconst (pc := 71) (v := 1) C.1 dX5_keepLost_71 (by decide) ?_
        refine st_iadd (pc := 72) C.1 dX5_keepLost_72 ?_
        refine pI_RX5_52 (pc := 73) C.1 dX5_keepLost_73 h1 ?_
        refine sv_iinc (pc := 76) (i := 1) (v := x1 + 1) C.1 [some (va_rf (some t)), some (.int (x1 + 1)), some (va_rf (some z0))] dX5_keepLost_76 rfl rfl (by rw [C.2.1]; exact Nat.le_of_ble_eq_true rfl) rfl rfl ?_
        refine st_goto (pc := 79) (tgt := 7) C.1 dX5_keepLost_79 (by decide) ?_
        exact (k3 z0 c0 c1 c2)

theorem clX5_keepLost_24 {X : CX} {d0 mc0 ms0 d mc ms cells slots : Nat} {pp : Hp → Prop} {h : Hp} {ls : List (Option Value)} {rest : List Value} {b : Nat} {a0 : Value} {post : Option Nat → Hp → Prop} (C : CmV X mX5_keepLost d0 mc0 ms0 pp) (hct : CtR mX1_liveFromUnit d mc ms [va_rf (some b), a0] h post) (hK : h.K b = 2) (hdd : d < d0) (hmc : cells + mc ≤ mc0) (hms : slots + ms ≤ ms0) (hcat : (rest.map fun v => v.category).sum ≤ 8) (kk : ∀ o h', post o h' → At X (cells + mc) (slots + ms) 27 ls (va_rf o :: rest) h') : At X cells slots 24 ls (a0 :: va_rf (some b) :: rest) h :=
  st_callV (pc := 24) (M := mX1_liveFromUnit) (idx := 62) (As := [a0]) C.1 C.2.2.1 C.2.2.2.2.2.2 ⟨wM_RX5_62, wC_X1_liveFromUnit, wI_RX1, by decide +kernel, by decide⟩ wV_X1_liveFromUnit wS_X1_liveFromUnit (ci := 1) (n := 1) rfl rfl (by decide) dX5_keepLost_24 rfl hdd hcat hK hct hmc hms (fun v h2 hp => by obtain ⟨o, rfl, hp⟩ := hp; exact kk o h2 hp)
theorem sgX5_unmarkHeads_0 {X : CX} {d mc ms cells slots : Nat} {pp : Hp → Prop} {h : Hp} {t : Nat} {o1 : Option Nat}  (C : CmV X mX5_unmarkHeads d mc ms pp) (h0 : ∀ z0 : Nat, o1 = some z0 → h.K z0 = 1) (k0 : ∀ z0 : Nat, o1 = some z0 → At X cells slots 15 [some (va_rf (some t)), some (va_rf (some z0)), some (.int (h.I 3 z0)), some (.int 0), none] [] h) (k1 : o1 = none → At X cells slots 15 [some (va_rf (some t)), some (va_rf none), some (.int 0), some (.int 0), none] [] h) : At X cells slots 0 [some (va_rf (some t)), some (va_rf o1), none, none, none] [] h := by
  refine st_aload_n (pc := 0) C.1 o1 dX5_unmarkHeads_0 rfl rfl ?_
  refine st_ifnonnull (pc := 1) (o := o1) (tgt := 8) C.1 dX5_unmarkHeads_1 (by decide) (fun z0 c0 => ?_) (fun c0 => ?_)
  · try rw [c0]
    refine st_aload_n (pc := 8) C.1 (some z0) dX5_unmarkHeads_8 rfl rfl ?_
    refine gI_RX5_69 (pc := 9) C.1 (h.I 3 z0) dX5_unmarkHeads_9 (h0 z0 c0) rfl ?_
    refine sv_istore_n (pc := 12) (i := 2) C.1 [some (va_rf (some t)), some (va_rf (some z0)), some (.int (h.I 3 z0)), none, none] dX5_unmarkHeads_12 rfl (Nat.le_of_ble_eq_true rfl) (by rw [C.2.1]; exact Nat.le_of_ble_eq_true rfl) rfl rfl ?_
    refine st_iconst (pc := 13) (v := 0) C.1 dX5_unmarkHeads_13 (by decide) ?_
    refine sv_istore_n (pc := 14) (i := 3) C.1 [some (va_rf (some t)), some (va_rf (some z0)), some (.int (h.I 3 z0)), some (.int 0), none] dX5_unmarkHeads_14 rfl (Nat.le_of_ble_eq_true rfl) (by rw [C.2.1]; exact Nat.le_of_ble_eq_true rfl) rfl rfl ?_
    exact (k0 z0 c0)
  · try rw [c0]
    refine st_iconst (pc := 4) (v := 0) C.1 dX5_unmarkHeads_4 (by decide) ?_
    refine st_goto (pc := 5) (tgt := 12) C.1 dX5_unmarkHeads_5 (by decide) ?_
    refine sv_istore_n (pc := 12) (i := 2) C.1 [some (va_rf (some t)), some (va_rf none), some (.int 0), none, none] dX5_unmarkHeads_12 rfl (Nat.le_of_ble_eq_true rfl) (by rw [C.2.1]; exact Nat.le_of_ble_eq_true rfl) rfl rfl ?_
    refine st_iconst (pc := 13) (v := 0) C.1 dX5_unmarkHeads_13 (by decide) ?_
    refine sv_istore_n (pc := 14) (i := 3) C.1 [some (va_rf (some t)), some (va_rf none), some (.int 0), some (.int 0), none] dX5_unmarkHeads_14 rfl (Nat.le_of_ble_eq_true rfl) (by rw [C.2.1]; exact Nat.le_of_ble_eq_true rfl) rfl rfl ?_
    exact (k1 c0)

theorem sgX5_unmarkHeads_15 {X : CX} {d mc ms cells slots : Nat} {pp : Hp → Prop} {h : Hp} {t : Nat} {o1 : Option Nat} {x2 : Int32} {x3 : Int32}  (C : CmV X mX5_unmarkHeads d mc ms pp) (hc : cells ≤ mc) (hs : slots ≤ ms)  (k0 : x2 ≤ x3 → pp h) (k1 : ¬ x2 ≤ x3 → At X cells slots 23 [some (va_rf (some t)), some (va_rf o1), some (.int x2), some (.int x3), none] [.int x3, va_rf o1, va_rf (some t)] h) : At X cells slots 15 [some (va_rf (some t)), some (va_rf o1), some (.int x2), some (.int x3), none] [] h := by
  refine st_iload_n (pc := 15) C.1 dX5_unmarkHeads_15 rfl rfl ?_
  refine st_iload_n (pc := 16) C.1 dX5_unmarkHeads_16 rfl rfl ?_
  refine st_icmp_ge (pc := 17) (tgt := 51) C.1 dX5_unmarkHeads_17 (by decide) (fun c0 => ?_) (fun c0 => ?_)
  · exact rt_v C rfl dX5_unmarkHeads_51 hc hs ⟨rfl, (k0 c0)⟩
  · refine st_aload_n (pc := 20) C.1 (some t) dX5_unmarkHeads_20 rfl rfl ?_
    refine st_aload_n (pc := 21) C.1 o1 dX5_unmarkHeads_21 rfl rfl ?_
    refine st_iload_n (pc := 22) C.1 dX5_unmarkHeads_22 rfl rfl ?_
    exact (k1 c0)

theorem sgX5_unmarkHeads_26 {X : CX} {d mc ms cells slots : Nat} {pp : Hp → Prop} {h : Hp} {t : Nat} {o1 : Option Nat} {x2 : Int32} {x3 : Int32} {p0 : Option Nat}  (C : CmV X mX5_unmarkHeads d mc ms pp) (h0 : ∀ z0 : Nat, p0 = some z0 → ¬ some z0 = o1 → h.K z0 = 1) (k0 : p0 = none → At X cells slots 15 [some (va_rf (some t)), some (va_rf o1), some (.int x2), some (.int (x3 + 1)), some (va_rf none)] [] h) (k1 : ∀ z0 : Nat, p0 = some z0 → some z0 = o1 → At X cells slots 15 [some (va_rf (some t)), some (va_rf o1), some (.int x2), some (.int (x3 + 1)), some (va_rf (some z0))] [] h) (k2 : ∀ z0 : Nat, p0 = some z0 → ¬ some z0 = o1 → At X cells slots 15 [some (va_rf (some t)), some (va_rf o1), some (.int x2), some (.int (x3 + 1)), some (va_rf (some z0))] [] (h.sI 7 z0 0)) : At X cells slots 26 [some (va_rf (some t)), some (va_rf o1), some (.int x2), some (.int x3), none] [va_rf p0] h := by
  refine sv_astore (pc := 26) (i := 4) C.1 [some (va_rf (some t)), some (va_rf o1), some (.int x2), some (.int x3), some (va_rf p0)] p0 dX5_unmarkHeads_26 (Nat.le_of_ble_eq_true rfl) (by rw [C.2.1]; exact Nat.le_of_ble_eq_true rfl) rfl rfl ?_
  refine st_aload (pc := 28) C.1 p0 dX5_unmarkHeads_28 rfl ?_
  refine st_ifnull (pc := 30) (o := p0) (tgt := 45) C.1 dX5_unmarkHeads_30 (by decide) (fun c0 => ?_) (fun z0 c0 => ?_)
  · try rw [c0]
    refine sv_iinc (pc := 45) (i := 3) (v := x3 + 1) C.1 [some (va_rf (some t)), some (va_rf o1), some (.int x2), some (.int (x3 + 1)), some (va_rf none)] dX5_unmarkHeads_45 rfl rfl (by rw [C.2.1]; exact Nat.le_of_ble_eq_true rfl) rfl rfl ?_
    refine st_goto (pc := 48) (tgt := 15) C.1 dX5_unmarkHeads_48 (by decide) ?_
    exact (k0 c0)
  · try rw [c0]
    refine st_aload (pc := 33) C.1 (some z0) dX5_unmarkHeads_33 rfl ?_
    refine st_aload_n (pc := 35) C.1 o1 dX5_unmarkHeads_35 rfl rfl ?_
    refine st_acmp_eq (pc := 36) (rx := some z0) (ry := o1) (tgt := 45) C.1 dX5_unmarkHeads_36 (by decide) (fun c1 => ?_) (fun c1 => ?_)
    · refine sv_iinc (pc := 45) (i := 3) (v := x3 + 1) C.1 [some (va_rf (some t)), some (va_rf o1), some (.int x2), some (.int (x3 + 1)), some (va_rf (some z0))] dX5_unmarkHeads_45 rfl rfl (by rw [C.2.1]; exact Nat.le_of_ble_eq_true rfl) rfl rfl ?_
      refine st_goto (pc := 48) (tgt := 15) C.1 dX5_unmarkHeads_48 (by decide) ?_
      exact (k1 z0 c0 c1)
    · refine st_aload (pc := 39) C.1 (some z0) dX5_unmarkHeads_39 rfl ?_
      refine st_iconst (pc := 41) (v := 0) C.1 dX5_unmarkHeads_41 (by decide) ?_
      refine pI_RX5_91 (pc := 42) C.1 dX5_unmarkHeads_42 (h0 z0 c0 c1) (Or.inl rfl) ?_
      refine sv_iinc (pc := 45) (i := 3) (v := x3 + 1) C.1 [some (va_rf (some t)), some (va_rf o1), some (.int x2), some (.int (x3 + 1)), some (va_rf (some z0))] dX5_unmarkHeads_45 rfl rfl (by rw [C.2.1]; exact Nat.le_of_ble_eq_true rfl) rfl rfl ?_
      refine st_goto (pc := 48) (tgt := 15) C.1 dX5_unmarkHeads_48 (by decide) ?_
      exact (k2 z0 c0 c1)

theorem clX5_unmarkHeads_23 {X : CX} {d0 mc0 ms0 d mc ms cells slots : Nat} {pp : Hp → Prop} {h : Hp} {ls : List (Option Value)} {rest : List Value} {b : Nat} {a0 a1 : Value} {post : Option Nat → Hp → Prop} (C : CmV X mX5_unmarkHeads d0 mc0 ms0 pp) (hct : CtR mX5_ledToByWord d mc ms [va_rf (some b), a0, a1] h post) (hK : h.K b = 6) (hdd : d < d0) (hmc : cells + mc ≤ mc0) (hms : slots + ms ≤ ms0) (hcat : (rest.map fun v => v.category).sum ≤ 8) (kk : ∀ o h', post o h' → At X (cells + mc) (slots + ms) 26 ls (va_rf o :: rest) h') : At X cells slots 23 ls (a1 :: a0 :: va_rf (some b) :: rest) h :=
  st_callV (pc := 23) (M := mX5_ledToByWord) (idx := 72) (As := [a0, a1]) C.1 C.2.2.1 C.2.2.2.2.2.2 ⟨wM_RX5_72, wC_X5_ledToByWord, wI_RX5, by decide +kernel, by decide⟩ wV_X5_ledToByWord wS_X5_ledToByWord (ci := 5) (n := 2) rfl rfl (by decide) dX5_unmarkHeads_23 rfl hdd hcat hK hct hmc hms (fun v h2 hp => by obtain ⟨o, rfl, hp⟩ := hp; exact kk o h2 hp)
