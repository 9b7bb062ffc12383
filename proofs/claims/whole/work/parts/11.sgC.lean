theorem dX8_init_0 : decode cX8_init 0 = .ok (.aload_n 0, 1) := by decide +kernel
theorem dX8_init_1 : decode cX8_init 1 = .ok (.invokespecial 1, 3) := by decide +kernel
theorem dX8_init_4 : decode cX8_init 4 = .ok (.iload_n 1, 1) := by decide +kernel
theorem dX8_init_5 : decode cX8_init 5 = .ok (.bipush 64, 2) := by decide +kernel
theorem dX8_init_7 : decode cX8_init 7 = .ok (.sipush 3000, 3) := by decide +kernel
theorem dX8_init_10 : decode cX8_init 10 = .ok (.invokestatic 9, 3) := by decide +kernel
theorem dX8_init_13 : decode cX8_init 13 = .ok (.istore 4, 2) := by decide +kernel
theorem dX8_init_15 : decode cX8_init 15 = .ok (.aload_n 0, 1) := by decide +kernel
theorem dX8_init_16 : decode cX8_init 16 = .ok (.new 13, 3) := by decide +kernel
theorem dX8_init_19 : decode cX8_init 19 = .ok (.dup, 1) := by decide +kernel
theorem dX8_init_20 : decode cX8_init 20 = .ok (.iload 4, 2) := by decide +kernel
theorem dX8_init_22 : decode cX8_init 22 = .ok (.invokespecial 15, 3) := by decide +kernel
theorem dX8_init_25 : decode cX8_init 25 = .ok (.putfield 18, 3) := by decide +kernel
theorem dX8_init_28 : decode cX8_init 28 = .ok (.aload_n 0, 1) := by decide +kernel
theorem dX8_init_29 : decode cX8_init 29 = .ok (.iload_n 2, 1) := by decide +kernel
theorem dX8_init_30 : decode cX8_init 30 = .ok (.iconst 1, 1) := by decide +kernel
theorem dX8_init_31 : decode cX8_init 31 = .ok (.bipush 8, 2) := by decide +kernel
theorem dX8_init_33 : decode cX8_init 33 = .ok (.invokestatic 9, 3) := by decide +kernel
theorem dX8_init_36 : decode cX8_init 36 = .ok (.putfield 22, 3) := by decide +kernel
theorem dX8_init_39 : decode cX8_init 39 = .ok (.aload_n 0, 1) := by decide +kernel
theorem dX8_init_40 : decode cX8_init 40 = .ok (.iload_n 3, 1) := by decide +kernel
theorem dX8_init_41 : decode cX8_init 41 = .ok (.iconst 0, 1) := by decide +kernel
theorem dX8_init_42 : decode cX8_init 42 = .ok (.sipush 3000, 3) := by decide +kernel
theorem dX8_init_45 : decode cX8_init 45 = .ok (.invokestatic 9, 3) := by decide +kernel
theorem dX8_init_48 : decode cX8_init 48 = .ok (.putfield 26, 3) := by decide +kernel
theorem dX8_init_51 : decode cX8_init 51 = .ok (.aload_n 0, 1) := by decide +kernel
theorem dX8_init_52 : decode cX8_init 52 = .ok (.new 29, 3) := by decide +kernel
theorem dX8_init_55 : decode cX8_init 55 = .ok (.dup, 1) := by decide +kernel
theorem dX8_init_56 : decode cX8_init 56 = .ok (.iload 4, 2) := by decide +kernel
theorem dX8_init_58 : decode cX8_init 58 = .ok (.invokespecial 31, 3) := by decide +kernel
theorem dX8_init_61 : decode cX8_init 61 = .ok (.putfield 32, 3) := by decide +kernel
theorem dX8_init_64 : decode cX8_init 64 = .ok (.aload_n 0, 1) := by decide +kernel
theorem dX8_init_65 : decode cX8_init 65 = .ok (.new 36, 3) := by decide +kernel
theorem dX8_init_68 : decode cX8_init 68 = .ok (.dup, 1) := by decide +kernel
theorem dX8_init_69 : decode cX8_init 69 = .ok (.iload 4, 2) := by decide +kernel
theorem dX8_init_71 : decode cX8_init 71 = .ok (.iconst 1, 1) := by decide +kernel
theorem dX8_init_72 : decode cX8_init 72 = .ok (.isub, 1) := by decide +kernel
theorem dX8_init_73 : decode cX8_init 73 = .ok (.iconst 4, 1) := by decide +kernel
theorem dX8_init_74 : decode cX8_init 74 = .ok (.idiv, 1) := by decide +kernel
theorem dX8_init_75 : decode cX8_init 75 = .ok (.invokespecial 38, 3) := by decide +kernel
theorem dX8_init_78 : decode cX8_init 78 = .ok (.putfield 39, 3) := by decide +kernel
theorem dX8_init_81 : decode cX8_init 81 = .ok (.aload_n 0, 1) := by decide +kernel
theorem dX8_init_82 : decode cX8_init 82 = .ok (.new 43, 3) := by decide +kernel
theorem dX8_init_85 : decode cX8_init 85 = .ok (.dup, 1) := by decide +kernel
theorem dX8_init_86 : decode cX8_init 86 = .ok (.invokespecial 45, 3) := by decide +kernel
theorem dX8_init_89 : decode cX8_init 89 = .ok (.putfield 46, 3) := by decide +kernel
theorem dX8_init_92 : decode cX8_init 92 = .ok (.aload_n 0, 1) := by decide +kernel
theorem dX8_init_93 : decode cX8_init 93 = .ok (.bipush 16, 2) := by decide +kernel
theorem dX8_init_95 : decode cX8_init 95 = .ok (.newarray .int, 2) := by decide +kernel
theorem dX8_init_97 : decode cX8_init 97 = .ok (.putfield 50, 3) := by decide +kernel
theorem dX8_init_100 : decode cX8_init 100 = .ok (.aload_n 0, 1) := by decide +kernel
theorem dX8_init_101 : decode cX8_init 101 = .ok (.new 54, 3) := by decide +kernel
theorem dX8_init_104 : decode cX8_init 104 = .ok (.dup, 1) := by decide +kernel
theorem dX8_init_105 : decode cX8_init 105 = .ok (.invokespecial 56, 3) := by decide +kernel
theorem dX8_init_108 : decode cX8_init 108 = .ok (.putfield 57, 3) := by decide +kernel
theorem dX8_init_111 : decode cX8_init 111 = .ok (.aload_n 0, 1) := by decide +kernel
theorem dX8_init_112 : decode cX8_init 112 = .ok (.new 61, 3) := by decide +kernel
theorem dX8_init_115 : decode cX8_init 115 = .ok (.dup, 1) := by decide +kernel
theorem dX8_init_116 : decode cX8_init 116 = .ok (.aload_n 0, 1) := by decide +kernel
theorem dX8_init_117 : decode cX8_init 117 = .ok (.getfield 39, 3) := by decide +kernel
theorem dX8_init_120 : decode cX8_init 120 = .ok (.aload_n 0, 1) := by decide +kernel
theorem dX8_init_121 : decode cX8_init 121 = .ok (.getfield 18, 3) := by decide +kernel
theorem dX8_init_124 : decode cX8_init 124 = .ok (.aload_n 0, 1) := by decide +kernel
theorem dX8_init_125 : decode cX8_init 125 = .ok (.getfield 50, 3) := by decide +kernel
theorem dX8_init_128 : decode cX8_init 128 = .ok (.invokespecial 63, 3) := by decide +kernel
theorem dX8_init_131 : decode cX8_init 131 = .ok (.putfield 66, 3) := by decide +kernel
theorem dX8_init_134 : decode cX8_init 134 = .ok (.return_, 1) := by decide +kernel
theorem dX8_alloc_0 : decode cX8_alloc 0 = .ok (.iload_n 1, 1) := by decide +kernel
theorem dX8_alloc_1 : decode cX8_alloc 1 = .ok (.iconst 1, 1) := by decide +kernel
theorem dX8_alloc_2 : decode cX8_alloc 2 = .ok (.if_icmp .ge 5, 3) := by decide +kernel
theorem dX8_alloc_5 : decode cX8_alloc 5 = .ok (.iconst 0, 1) := by decide +kernel
theorem dX8_alloc_6 : decode cX8_alloc 6 = .ok (.ireturn, 1) := by decide +kernel
theorem dX8_alloc_7 : decode cX8_alloc 7 = .ok (.aload_n 0, 1) := by decide +kernel
theorem dX8_alloc_8 : decode cX8_alloc 8 = .ok (.iload_n 1, 1) := by decide +kernel
theorem dX8_alloc_9 : decode cX8_alloc 9 = .ok (.invokevirtual 70, 3) := by decide +kernel
theorem dX8_alloc_12 : decode cX8_alloc 12 = .ok (.astore_n 2, 1) := by decide +kernel
theorem dX8_alloc_13 : decode cX8_alloc 13 = .ok (.aload_n 2, 1) := by decide +kernel
theorem dX8_alloc_14 : decode cX8_alloc 14 = .ok (.ifnonnull 7, 3) := by decide +kernel
theorem dX8_alloc_17 : decode cX8_alloc 17 = .ok (.iconst 0, 1) := by decide +kernel
theorem dX8_alloc_18 : decode cX8_alloc 18 = .ok (.goto 7, 3) := by decide +kernel
theorem dX8_alloc_21 : decode cX8_alloc 21 = .ok (.aload_n 2, 1) := by decide +kernel
theorem dX8_alloc_22 : decode cX8_alloc 22 = .ok (.getfield 74, 3) := by decide +kernel
theorem dX8_alloc_25 : decode cX8_alloc 25 = .ok (.ireturn, 1) := by decide +kernel
theorem dX8_free_0 : decode cX8_free 0 = .ok (.aload_n 0, 1) := by decide +kernel
theorem dX8_free_1 : decode cX8_free 1 = .ok (.getfield 39, 3) := by decide +kernel
theorem dX8_free_4 : decode cX8_free 4 = .ok (.iload_n 1, 1) := by decide +kernel
theorem dX8_free_5 : decode cX8_free 5 = .ok (.invokevirtual 79, 3) := by decide +kernel
theorem dX8_free_8 : decode cX8_free 8 = .ok (.astore_n 2, 1) := by decide +kernel
theorem dX8_free_9 : decode cX8_free 9 = .ok (.aload_n 2, 1) := by decide +kernel
theorem dX8_free_10 : decode cX8_free 10 = .ok (.ifnonnull 9, 3) := by decide +kernel
theorem dX8_free_13 : decode cX8_free 13 = .ok (.aload_n 0, 1) := by decide +kernel
theorem dX8_free_14 : decode cX8_free 14 = .ok (.iload_n 1, 1) := by decide +kernel
theorem dX8_free_15 : decode cX8_free 15 = .ok (.invokevirtual 82, 3) := by decide +kernel
theorem dX8_free_18 : decode cX8_free 18 = .ok (.ireturn, 1) := by decide +kernel
theorem dX8_free_19 : decode cX8_free 19 = .ok (.aload_n 0, 1) := by decide +kernel
theorem dX8_free_20 : decode cX8_free 20 = .ok (.aload_n 2, 1) := by decide +kernel
theorem dX8_free_21 : decode cX8_free 21 = .ok (.invokevirtual 86, 3) := by decide +kernel
theorem dX8_free_24 : decode cX8_free 24 = .ok (.iconst 0, 1) := by decide +kernel
theorem dX8_free_25 : decode cX8_free 25 = .ok (.ireturn, 1) := by decide +kernel
theorem dX8_resize_0 : decode cX8_resize 0 = .ok (.iload_n 2, 1) := by decide +kernel
theorem dX8_resize_1 : decode cX8_resize 1 = .ok (.iconst 1, 1) := by decide +kernel
theorem dX8_resize_2 : decode cX8_resize 2 = .ok (.if_icmp .ge 5, 3) := by decide +kernel
theorem dX8_resize_5 : decode cX8_resize 5 = .ok (.iconst 0, 1) := by decide +kernel
theorem dX8_resize_6 : decode cX8_resize 6 = .ok (.ireturn, 1) := by decide +kernel
theorem dX8_resize_7 : decode cX8_resize 7 = .ok (.aload_n 0, 1) := by decide +kernel
theorem dX8_resize_8 : decode cX8_resize 8 = .ok (.getfield 39, 3) := by decide +kernel
theorem dX8_resize_11 : decode cX8_resize 11 = .ok (.iload_n 1, 1) := by decide +kernel
theorem dX8_resize_12 : decode cX8_resize 12 = .ok (.invokevirtual 79, 3) := by decide +kernel
theorem dX8_resize_15 : decode cX8_resize 15 = .ok (.astore_n 3, 1) := by decide +kernel
theorem dX8_resize_16 : decode cX8_resize 16 = .ok (.aload_n 3, 1) := by decide +kernel
theorem dX8_resize_17 : decode cX8_resize 17 = .ok (.ifnonnull 10, 3) := by decide +kernel
theorem dX8_resize_20 : decode cX8_resize 20 = .ok (.aload_n 0, 1) := by decide +kernel
theorem dX8_resize_21 : decode cX8_resize 21 = .ok (.iload_n 1, 1) := by decide +kernel
theorem dX8_resize_22 : decode cX8_resize 22 = .ok (.invokevirtual 82, 3) := by decide +kernel
theorem dX8_resize_25 : decode cX8_resize 25 = .ok (.ineg, 1) := by decide +kernel
theorem dX8_resize_26 : decode cX8_resize 26 = .ok (.ireturn, 1) := by decide +kernel
theorem dX8_resize_27 : decode cX8_resize 27 = .ok (.aload_n 0, 1) := by decide +kernel
theorem dX8_resize_28 : decode cX8_resize 28 = .ok (.iload_n 2, 1) := by decide +kernel
theorem dX8_resize_29 : decode cX8_resize 29 = .ok (.invokevirtual 70, 3) := by decide +kernel
theorem dX8_resize_32 : decode cX8_resize 32 = .ok (.astore 4, 2) := by decide +kernel
theorem dX8_resize_34 : decode cX8_resize 34 = .ok (.aload 4, 2) := by decide +kernel
theorem dX8_resize_36 : decode cX8_resize 36 = .ok (.ifnonnull 5, 3) := by decide +kernel
theorem dX8_resize_39 : decode cX8_resize 39 = .ok (.iconst 0, 1) := by decide +kernel
theorem dX8_resize_40 : decode cX8_resize 40 = .ok (.ireturn, 1) := by decide +kernel
theorem dX8_resize_41 : decode cX8_resize 41 = .ok (.aload_n 0, 1) := by decide +kernel
theorem dX8_resize_42 : decode cX8_resize 42 = .ok (.getfield 18, 3) := by decide +kernel
theorem dX8_resize_45 : decode cX8_resize 45 = .ok (.aload_n 3, 1) := by decide +kernel
theorem dX8_resize_46 : decode cX8_resize 46 = .ok (.getfield 74, 3) := by decide +kernel
theorem dX8_resize_49 : decode cX8_resize 49 = .ok (.aload 4, 2) := by decide +kernel
theorem dX8_resize_51 : decode cX8_resize 51 = .ok (.getfield 74, 3) := by decide +kernel
theorem dX8_resize_54 : decode cX8_resize 54 = .ok (.aload_n 3, 1) := by decide +kernel
theorem dX8_resize_55 : decode cX8_resize 55 = .ok (.getfield 90, 3) := by decide +kernel
theorem dX8_resize_58 : decode cX8_resize 58 = .ok (.aload 4, 2) := by decide +kernel
theorem dX8_resize_60 : decode cX8_resize 60 = .ok (.getfield 90, 3) := by decide +kernel
theorem dX8_resize_63 : decode cX8_resize 63 = .ok (.invokestatic 93, 3) := by decide +kernel
theorem dX8_resize_66 : decode cX8_resize 66 = .ok (.invokevirtual 99, 3) := by decide +kernel
theorem dX8_resize_69 : decode cX8_resize 69 = .ok (.aload_n 0, 1) := by decide +kernel
theorem dX8_resize_70 : decode cX8_resize 70 = .ok (.aload_n 3, 1) := by decide +kernel
theorem dX8_resize_71 : decode cX8_resize 71 = .ok (.invokevirtual 86, 3) := by decide +kernel
theorem dX8_resize_74 : decode cX8_resize 74 = .ok (.aload 4, 2) := by decide +kernel
theorem dX8_resize_76 : decode cX8_resize 76 = .ok (.getfield 74, 3) := by decide +kernel
theorem dX8_resize_79 : decode cX8_resize 79 = .ok (.ireturn, 1) := by decide +kernel
theorem dX8_load_0 : decode cX8_load 0 = .ok (.aload_n 0, 1) := by decide +kernel
theorem dX8_load_1 : decode cX8_load 1 = .ok (.getfield 39, 3) := by decide +kernel
theorem dX8_load_4 : decode cX8_load 4 = .ok (.iload_n 1, 1) := by decide +kernel
theorem dX8_load_5 : decode cX8_load 5 = .ok (.invokevirtual 103, 3) := by decide +kernel
theorem dX8_load_8 : decode cX8_load 8 = .ok (.istore_n 2, 1) := by decide +kernel
theorem dX8_load_9 : decode cX8_load 9 = .ok (.iload_n 2, 1) := by decide +kernel
theorem dX8_load_10 : decode cX8_load 10 = .ok (.ifCond .eq 14, 3) := by decide +kernel
theorem dX8_load_13 : decode cX8_load 13 = .ok (.aload_n 0, 1) := by decide +kernel
theorem dX8_load_14 : decode cX8_load 14 = .ok (.getfield 57, 3) := by decide +kernel
theorem dX8_load_17 : decode cX8_load 17 = .ok (.iload_n 2, 1) := by decide +kernel
theorem dX8_load_18 : decode cX8_load 18 = .ok (.iload_n 1, 1) := by decide +kernel
theorem dX8_load_19 : decode cX8_load 19 = .ok (.invokevirtual 106, 3) := by decide +kernel
theorem dX8_load_22 : decode cX8_load 22 = .ok (.iconst 0, 1) := by decide +kernel
theorem dX8_load_23 : decode cX8_load 23 = .ok (.ireturn, 1) := by decide +kernel
theorem dX8_load_24 : decode cX8_load 24 = .ok (.aload_n 0, 1) := by decide +kernel
theorem dX8_load_25 : decode cX8_load 25 = .ok (.getfield 18, 3) := by decide +kernel
theorem dX8_load_28 : decode cX8_load 28 = .ok (.iload_n 1, 1) := by decide +kernel
theorem dX8_load_29 : decode cX8_load 29 = .ok (.invokevirtual 110, 3) := by decide +kernel
theorem dX8_load_32 : decode cX8_load 32 = .ok (.ireturn, 1) := by decide +kernel
theorem dX8_store_0 : decode cX8_store 0 = .ok (.aload_n 0, 1) := by decide +kernel
theorem dX8_store_1 : decode cX8_store 1 = .ok (.getfield 39, 3) := by decide +kernel
theorem dX8_store_4 : decode cX8_store 4 = .ok (.iload_n 1, 1) := by decide +kernel
theorem dX8_store_5 : decode cX8_store 5 = .ok (.invokevirtual 103, 3) := by decide +kernel
theorem dX8_store_8 : decode cX8_store 8 = .ok (.istore_n 3, 1) := by decide +kernel
theorem dX8_store_9 : decode cX8_store 9 = .ok (.iload_n 3, 1) := by decide +kernel
theorem dX8_store_10 : decode cX8_store 10 = .ok (.ifCond .eq 14, 3) := by decide +kernel
theorem dX8_store_13 : decode cX8_store 13 = .ok (.aload_n 0, 1) := by decide +kernel
theorem dX8_store_14 : decode cX8_store 14 = .ok (.getfield 57, 3) := by decide +kernel
theorem dX8_store_17 : decode cX8_store 17 = .ok (.iload_n 3, 1) := by decide +kernel
theorem dX8_store_18 : decode cX8_store 18 = .ok (.iload_n 1, 1) := by decide +kernel
theorem dX8_store_19 : decode cX8_store 19 = .ok (.invokevirtual 106, 3) := by decide +kernel
theorem dX8_store_22 : decode cX8_store 22 = .ok (.iload_n 3, 1) := by decide +kernel
theorem dX8_store_23 : decode cX8_store 23 = .ok (.ireturn, 1) := by decide +kernel
theorem dX8_store_24 : decode cX8_store 24 = .ok (.aload_n 0, 1) := by decide +kernel
theorem dX8_store_25 : decode cX8_store 25 = .ok (.getfield 18, 3) := by decide +kernel
theorem dX8_store_28 : decode cX8_store 28 = .ok (.iload_n 1, 1) := by decide +kernel
theorem dX8_store_29 : decode cX8_store 29 = .ok (.iload_n 2, 1) := by decide +kernel
theorem dX8_store_30 : decode cX8_store 30 = .ok (.invokevirtual 113, 3) := by decide +kernel
theorem dX8_store_33 : decode cX8_store 33 = .ok (.iconst 0, 1) := by decide +kernel
theorem dX8_store_34 : decode cX8_store 34 = .ok (.ireturn, 1) := by decide +kernel
theorem dX8_check_0 : decode cX8_check 0 = .ok (.aload_n 0, 1) := by decide +kernel
theorem dX8_check_1 : decode cX8_check 1 = .ok (.getfield 39, 3) := by decide +kernel
theorem dX8_check_4 : decode cX8_check 4 = .ok (.iload_n 1, 1) := by decide +kernel
theorem dX8_check_5 : decode cX8_check 5 = .ok (.invokevirtual 103, 3) := by decide +kernel
theorem dX8_check_8 : decode cX8_check 8 = .ok (.ireturn, 1) := by decide +kernel
theorem dX8_copy_0 : decode cX8_copy 0 = .ok (.iload_n 3, 1) := by decide +kernel
theorem dX8_copy_1 : decode cX8_copy 1 = .ok (.ifCond .lt 10, 3) := by decide +kernel
theorem dX8_copy_4 : decode cX8_copy 4 = .ok (.iload_n 3, 1) := by decide +kernel
theorem dX8_copy_5 : decode cX8_copy 5 = .ok (.sipush 3000, 3) := by decide +kernel
theorem dX8_copy_8 : decode cX8_copy 8 = .ok (.if_icmp .le 5, 3) := by decide +kernel
theorem dX8_copy_11 : decode cX8_copy 11 = .ok (.iconst (-1), 1) := by decide +kernel
theorem dX8_copy_12 : decode cX8_copy 12 = .ok (.ireturn, 1) := by decide +kernel
theorem dX8_copy_13 : decode cX8_copy 13 = .ok (.aload_n 0, 1) := by decide +kernel
theorem dX8_copy_14 : decode cX8_copy 14 = .ok (.getfield 39, 3) := by decide +kernel
theorem dX8_copy_17 : decode cX8_copy 17 = .ok (.iload_n 1, 1) := by decide +kernel
theorem dX8_copy_18 : decode cX8_copy 18 = .ok (.iload_n 3, 1) := by decide +kernel
theorem dX8_copy_19 : decode cX8_copy 19 = .ok (.invokevirtual 116, 3) := by decide +kernel
theorem dX8_copy_22 : decode cX8_copy 22 = .ok (.istore 4, 2) := by decide +kernel
theorem dX8_copy_24 : decode cX8_copy 24 = .ok (.iload 4, 2) := by decide +kernel
theorem dX8_copy_26 : decode cX8_copy 26 = .ok (.iload_n 3, 1) := by decide +kernel
theorem dX8_copy_27 : decode cX8_copy 27 = .ok (.if_icmp .ge 14, 3) := by decide +kernel
theorem dX8_copy_30 : decode cX8_copy 30 = .ok (.aload_n 0, 1) := by decide +kernel
theorem dX8_copy_31 : decode cX8_copy 31 = .ok (.iload_n 1, 1) := by decide +kernel
theorem dX8_copy_32 : decode cX8_copy 32 = .ok (.iload 4, 2) := by decide +kernel
theorem dX8_copy_34 : decode cX8_copy 34 = .ok (.iadd, 1) := by decide +kernel
theorem dX8_copy_35 : decode cX8_copy 35 = .ok (.iload 4, 2) := by decide +kernel
theorem dX8_copy_37 : decode cX8_copy 37 = .ok (.invokevirtual 119, 3) := by decide +kernel
theorem dX8_copy_40 : decode cX8_copy 40 = .ok (.ireturn, 1) := by decide +kernel
theorem dX8_copy_41 : decode cX8_copy 41 = .ok (.aload_n 0, 1) := by decide +kernel
theorem dX8_copy_42 : decode cX8_copy 42 = .ok (.getfield 39, 3) := by decide +kernel
theorem dX8_copy_45 : decode cX8_copy 45 = .ok (.iload_n 2, 1) := by decide +kernel
theorem dX8_copy_46 : decode cX8_copy 46 = .ok (.iload_n 3, 1) := by decide +kernel
theorem dX8_copy_47 : decode cX8_copy 47 = .ok (.invokevirtual 116, 3) := by decide +kernel
theorem dX8_copy_50 : decode cX8_copy 50 = .ok (.istore 5, 2) := by decide +kernel
theorem dX8_copy_52 : decode cX8_copy 52 = .ok (.iload 5, 2) := by decide +kernel
theorem dX8_copy_54 : decode cX8_copy 54 = .ok (.iload_n 3, 1) := by decide +kernel
theorem dX8_copy_55 : decode cX8_copy 55 = .ok (.if_icmp .ge 16, 3) := by decide +kernel
theorem dX8_copy_58 : decode cX8_copy 58 = .ok (.aload_n 0, 1) := by decide +kernel
theorem dX8_copy_59 : decode cX8_copy 59 = .ok (.iload_n 2, 1) := by decide +kernel
theorem dX8_copy_60 : decode cX8_copy 60 = .ok (.iload 5, 2) := by decide +kernel
theorem dX8_copy_62 : decode cX8_copy 62 = .ok (.iadd, 1) := by decide +kernel
theorem dX8_copy_63 : decode cX8_copy 63 = .ok (.iload_n 3, 1) := by decide +kernel
theorem dX8_copy_64 : decode cX8_copy 64 = .ok (.iload 5, 2) := by decide +kernel
theorem dX8_copy_66 : decode cX8_copy 66 = .ok (.iadd, 1) := by decide +kernel
theorem dX8_copy_67 : decode cX8_copy 67 = .ok (.invokevirtual 119, 3) := by decide +kernel
theorem dX8_copy_70 : decode cX8_copy 70 = .ok (.ireturn, 1) := by decide +kernel
theorem dX8_copy_71 : decode cX8_copy 71 = .ok (.aload_n 0, 1) := by decide +kernel
theorem dX8_copy_72 : decode cX8_copy 72 = .ok (.getfield 18, 3) := by decide +kernel
theorem dX8_copy_75 : decode cX8_copy 75 = .ok (.iload_n 1, 1) := by decide +kernel
theorem dX8_copy_76 : decode cX8_copy 76 = .ok (.iload_n 2, 1) := by decide +kernel
theorem dX8_copy_77 : decode cX8_copy 77 = .ok (.iload_n 3, 1) := by decide +kernel
theorem dX8_copy_78 : decode cX8_copy 78 = .ok (.invokevirtual 99, 3) := by decide +kernel
theorem dX8_copy_81 : decode cX8_copy 81 = .ok (.iload_n 3, 1) := by decide +kernel
theorem dX8_copy_82 : decode cX8_copy 82 = .ok (.ireturn, 1) := by decide +kernel
theorem dX8_sizeOf_0 : decode cX8_sizeOf 0 = .ok (.aload_n 0, 1) := by decide +kernel
theorem dX8_sizeOf_1 : decode cX8_sizeOf 1 = .ok (.getfield 39, 3) := by decide +kernel
theorem dX8_sizeOf_4 : decode cX8_sizeOf 4 = .ok (.iload_n 1, 1) := by decide +kernel
theorem dX8_sizeOf_5 : decode cX8_sizeOf 5 = .ok (.invokevirtual 79, 3) := by decide +kernel
theorem dX8_sizeOf_8 : decode cX8_sizeOf 8 = .ok (.astore_n 2, 1) := by decide +kernel
theorem dX8_sizeOf_9 : decode cX8_sizeOf 9 = .ok (.aload_n 2, 1) := by decide +kernel
theorem dX8_sizeOf_10 : decode cX8_sizeOf 10 = .ok (.ifnonnull 7, 3) := by decide +kernel
theorem dX8_sizeOf_13 : decode cX8_sizeOf 13 = .ok (.iconst (-1), 1) := by decide +kernel
theorem dX8_sizeOf_14 : decode cX8_sizeOf 14 = .ok (.goto 7, 3) := by decide +kernel
theorem dX8_sizeOf_17 : decode cX8_sizeOf 17 = .ok (.aload_n 2, 1) := by decide +kernel
theorem dX8_sizeOf_18 : decode cX8_sizeOf 18 = .ok (.getfield 90, 3) := by decide +kernel
theorem dX8_sizeOf_21 : decode cX8_sizeOf 21 = .ok (.ireturn, 1) := by decide +kernel
theorem dX8_describe_0 : decode cX8_describe 0 = .ok (.iload_n 2, 1) := by decide +kernel
theorem dX8_describe_1 : decode cX8_describe 1 = .ok (.ifCond .lt 8, 3) := by decide +kernel
theorem dX8_describe_4 : decode cX8_describe 4 = .ok (.iload_n 2, 1) := by decide +kernel
theorem dX8_describe_5 : decode cX8_describe 5 = .ok (.iconst 5, 1) := by decide +kernel
theorem dX8_describe_6 : decode cX8_describe 6 = .ok (.if_icmp .le 5, 3) := by decide +kernel
theorem dX8_describe_9 : decode cX8_describe 9 = .ok (.iconst (-1), 1) := by decide +kernel
theorem dX8_describe_10 : decode cX8_describe 10 = .ok (.ireturn, 1) := by decide +kernel
theorem dX8_describe_11 : decode cX8_describe 11 = .ok (.aload_n 0, 1) := by decide +kernel
theorem dX8_describe_12 : decode cX8_describe 12 = .ok (.getfield 39, 3) := by decide +kernel
theorem dX8_describe_15 : decode cX8_describe 15 = .ok (.iload_n 1, 1) := by decide +kernel
theorem dX8_describe_16 : decode cX8_describe 16 = .ok (.invokevirtual 122, 3) := by decide +kernel
theorem dX8_describe_19 : decode cX8_describe 19 = .ok (.astore_n 3, 1) := by decide +kernel
theorem dX8_describe_20 : decode cX8_describe 20 = .ok (.aload_n 3, 1) := by decide +kernel
theorem dX8_describe_21 : decode cX8_describe 21 = .ok (.ifnonnull 13, 3) := by decide +kernel
theorem dX8_describe_24 : decode cX8_describe 24 = .ok (.new 125, 3) := by decide +kernel
theorem dX8_describe_27 : decode cX8_describe 27 = .ok (.dup, 1) := by decide +kernel
theorem dX8_describe_28 : decode cX8_describe 28 = .ok (.ldc 127, 2) := by decide +kernel
theorem dX8_describe_30 : decode cX8_describe 30 = .ok (.invokespecial 129, 3) := by decide +kernel
theorem dX8_describe_33 : decode cX8_describe 33 = .ok (.athrow, 1) := by decide +kernel
theorem dX8_describe_34 : decode cX8_describe 34 = .ok (.iload_n 2, 1) := by decide +kernel
theorem dX8_describe_35 : decode cX8_describe 35 = .ok (.tableswitch 66 0 4 #[33, 38, 43, 48, 53], 33) := by decide +kernel
theorem dX8_describe_68 : decode cX8_describe 68 = .ok (.aload_n 3, 1) := by decide +kernel
theorem dX8_describe_69 : decode cX8_describe 69 = .ok (.getfield 74, 3) := by decide +kernel
theorem dX8_describe_72 : decode cX8_describe 72 = .ok (.ireturn, 1) := by decide +kernel
theorem dX8_describe_73 : decode cX8_describe 73 = .ok (.aload_n 3, 1) := by decide +kernel
theorem dX8_describe_74 : decode cX8_describe 74 = .ok (.getfield 90, 3) := by decide +kernel
theorem dX8_describe_77 : decode cX8_describe 77 = .ok (.ireturn, 1) := by decide +kernel
theorem dX8_describe_78 : decode cX8_describe 78 = .ok (.aload_n 3, 1) := by decide +kernel
theorem dX8_describe_79 : decode cX8_describe 79 = .ok (.getfield 132, 3) := by decide +kernel
theorem dX8_describe_82 : decode cX8_describe 82 = .ok (.ireturn, 1) := by decide +kernel
theorem dX8_describe_83 : decode cX8_describe 83 = .ok (.aload_n 3, 1) := by decide +kernel
theorem dX8_describe_84 : decode cX8_describe 84 = .ok (.getfield 135, 3) := by decide +kernel
theorem dX8_describe_87 : decode cX8_describe 87 = .ok (.ireturn, 1) := by decide +kernel
theorem dX8_describe_88 : decode cX8_describe 88 = .ok (.aload_n 3, 1) := by decide +kernel
theorem dX8_describe_89 : decode cX8_describe 89 = .ok (.getfield 138, 3) := by decide +kernel
theorem dX8_describe_92 : decode cX8_describe 92 = .ok (.ifCond .eq 7, 3) := by decide +kernel
theorem dX8_describe_95 : decode cX8_describe 95 = .ok (.iconst 1, 1) := by decide +kernel
theorem dX8_describe_96 : decode cX8_describe 96 = .ok (.goto 4, 3) := by decide +kernel
theorem dX8_describe_99 : decode cX8_describe 99 = .ok (.iconst 0, 1) := by decide +kernel
theorem dX8_describe_100 : decode cX8_describe 100 = .ok (.ireturn, 1) := by decide +kernel
theorem dX8_describe_101 : decode cX8_describe 101 = .ok (.iload_n 1, 1) := by decide +kernel
theorem dX8_describe_102 : decode cX8_describe 102 = .ok (.aload_n 3, 1) := by decide +kernel
theorem dX8_describe_103 : decode cX8_describe 103 = .ok (.getfield 74, 3) := by decide +kernel
theorem dX8_describe_106 : decode cX8_describe 106 = .ok (.isub, 1) := by decide +kernel
theorem dX8_describe_107 : decode cX8_describe 107 = .ok (.ireturn, 1) := by decide +kernel
theorem dX8_setRoot_0 : decode cX8_setRoot 0 = .ok (.iload_n 1, 1) := by decide +kernel
theorem dX8_setRoot_1 : decode cX8_setRoot 1 = .ok (.ifCond .lt 12, 3) := by decide +kernel
theorem dX8_setRoot_4 : decode cX8_setRoot 4 = .ok (.iload_n 1, 1) := by decide +kernel
theorem dX8_setRoot_5 : decode cX8_setRoot 5 = .ok (.aload_n 0, 1) := by decide +kernel
theorem dX8_setRoot_6 : decode cX8_setRoot 6 = .ok (.getfield 50, 3) := by decide +kernel
theorem dX8_setRoot_9 : decode cX8_setRoot 9 = .ok (.arraylength, 1) := by decide +kernel
theorem dX8_setRoot_10 : decode cX8_setRoot 10 = .ok (.if_icmp .lt 5, 3) := by decide +kernel
theorem dX8_setRoot_13 : decode cX8_setRoot 13 = .ok (.iconst 0, 1) := by decide +kernel
theorem dX8_setRoot_14 : decode cX8_setRoot 14 = .ok (.ireturn, 1) := by decide +kernel
theorem dX8_setRoot_15 : decode cX8_setRoot 15 = .ok (.aload_n 0, 1) := by decide +kernel
theorem dX8_setRoot_16 : decode cX8_setRoot 16 = .ok (.getfield 50, 3) := by decide +kernel
theorem dX8_setRoot_19 : decode cX8_setRoot 19 = .ok (.iload_n 1, 1) := by decide +kernel
theorem dX8_setRoot_20 : decode cX8_setRoot 20 = .ok (.iload_n 2, 1) := by decide +kernel
theorem dX8_setRoot_21 : decode cX8_setRoot 21 = .ok (.iastore, 1) := by decide +kernel
theorem dX8_setRoot_22 : decode cX8_setRoot 22 = .ok (.iconst 1, 1) := by decide +kernel
theorem dX8_setRoot_23 : decode cX8_setRoot 23 = .ok (.ireturn, 1) := by decide +kernel
theorem dX8_leakScan_0 : decode cX8_leakScan 0 = .ok (.aload_n 0, 1) := by decide +kernel
theorem dX8_leakScan_1 : decode cX8_leakScan 1 = .ok (.getfield 66, 3) := by decide +kernel
theorem dX8_leakScan_4 : decode cX8_leakScan 4 = .ok (.invokevirtual 142, 3) := by decide +kernel
theorem dX8_leakScan_7 : decode cX8_leakScan 7 = .ok (.ireturn, 1) := by decide +kernel
theorem dX8_leak_0 : decode cX8_leak 0 = .ok (.aload_n 0, 1) := by decide +kernel
theorem dX8_leak_1 : decode cX8_leak 1 = .ok (.getfield 66, 3) := by decide +kernel
theorem dX8_leak_4 : decode cX8_leak 4 = .ok (.iload_n 1, 1) := by decide +kernel
theorem dX8_leak_5 : decode cX8_leak 5 = .ok (.invokevirtual 146, 3) := by decide +kernel
theorem dX8_leak_8 : decode cX8_leak 8 = .ok (.astore_n 3, 1) := by decide +kernel
theorem dX8_leak_9 : decode cX8_leak 9 = .ok (.aload_n 3, 1) := by decide +kernel
theorem dX8_leak_10 : decode cX8_leak 10 = .ok (.ifnonnull 5, 3) := by decide +kernel
theorem dX8_leak_13 : decode cX8_leak 13 = .ok (.iconst (-1), 1) := by decide +kernel
theorem dX8_leak_14 : decode cX8_leak 14 = .ok (.ireturn, 1) := by decide +kernel
theorem dX8_leak_15 : decode cX8_leak 15 = .ok (.iload_n 2, 1) := by decide +kernel
theorem dX8_leak_16 : decode cX8_leak 16 = .ok (.tableswitch 60 0 3 #[32, 37, 42, 47], 32) := by decide +kernel
theorem dX8_leak_48 : decode cX8_leak 48 = .ok (.aload_n 3, 1) := by decide +kernel
theorem dX8_leak_49 : decode cX8_leak 49 = .ok (.getfield 74, 3) := by decide +kernel
theorem dX8_leak_52 : decode cX8_leak 52 = .ok (.ireturn, 1) := by decide +kernel
theorem dX8_leak_53 : decode cX8_leak 53 = .ok (.aload_n 3, 1) := by decide +kernel
theorem dX8_leak_54 : decode cX8_leak 54 = .ok (.getfield 90, 3) := by decide +kernel
theorem dX8_leak_57 : decode cX8_leak 57 = .ok (.ireturn, 1) := by decide +kernel
theorem dX8_leak_58 : decode cX8_leak 58 = .ok (.aload_n 3, 1) := by decide +kernel
theorem dX8_leak_59 : decode cX8_leak 59 = .ok (.getfield 135, 3) := by decide +kernel
theorem dX8_leak_62 : decode cX8_leak 62 = .ok (.ireturn, 1) := by decide +kernel
theorem dX8_leak_63 : decode cX8_leak 63 = .ok (.aload_n 3, 1) := by decide +kernel
theorem dX8_leak_64 : decode cX8_leak 64 = .ok (.getfield 149, 3) := by decide +kernel
theorem dX8_leak_67 : decode cX8_leak 67 = .ok (.ifCond .eq 7, 3) := by decide +kernel
theorem dX8_leak_70 : decode cX8_leak 70 = .ok (.iconst 1, 1) := by decide +kernel
theorem dX8_leak_71 : decode cX8_leak 71 = .ok (.goto 4, 3) := by decide +kernel
theorem dX8_leak_74 : decode cX8_leak 74 = .ok (.iconst 0, 1) := by decide +kernel
theorem dX8_leak_75 : decode cX8_leak 75 = .ok (.ireturn, 1) := by decide +kernel
theorem dX8_leak_76 : decode cX8_leak 76 = .ok (.iconst (-1), 1) := by decide +kernel
theorem dX8_leak_77 : decode cX8_leak 77 = .ok (.ireturn, 1) := by decide +kernel
theorem dX8_pointers_0 : decode cX8_pointers 0 = .ok (.aload_n 0, 1) := by decide +kernel
theorem dX8_pointers_1 : decode cX8_pointers 1 = .ok (.getfield 66, 3) := by decide +kernel
theorem dX8_pointers_4 : decode cX8_pointers 4 = .ok (.invokevirtual 152, 3) := by decide +kernel
theorem dX8_pointers_7 : decode cX8_pointers 7 = .ok (.ireturn, 1) := by decide +kernel
theorem dX8_count_0 : decode cX8_count 0 = .ok (.iload_n 1, 1) := by decide +kernel
theorem dX8_count_1 : decode cX8_count 1 = .ok (.tableswitch 204 0 16 #[83, 91, 101, 106, 114, 122, 130, 138, 143, 148, 153, 161, 169, 177, 185, 194, 199], 83) := by decide +kernel
theorem dX8_count_84 : decode cX8_count 84 = .ok (.aload_n 0, 1) := by decide +kernel
theorem dX8_count_85 : decode cX8_count 85 = .ok (.getfield 32, 3) := by decide +kernel
theorem dX8_count_88 : decode cX8_count 88 = .ok (.getfield 155, 3) := by decide +kernel
theorem dX8_count_91 : decode cX8_count 91 = .ok (.ireturn, 1) := by decide +kernel
theorem dX8_count_92 : decode cX8_count 92 = .ok (.aload_n 0, 1) := by decide +kernel
theorem dX8_count_93 : decode cX8_count 93 = .ok (.getfield 158, 3) := by decide +kernel
theorem dX8_count_96 : decode cX8_count 96 = .ok (.aload_n 0, 1) := by decide +kernel
theorem dX8_count_97 : decode cX8_count 97 = .ok (.getfield 161, 3) := by decide +kernel
theorem dX8_count_100 : decode cX8_count 100 = .ok (.isub, 1) := by decide +kernel
theorem dX8_count_101 : decode cX8_count 101 = .ok (.ireturn, 1) := by decide +kernel
theorem dX8_count_102 : decode cX8_count 102 = .ok (.aload_n 0, 1) := by decide +kernel
theorem dX8_count_103 : decode cX8_count 103 = .ok (.getfield 164, 3) := by decide +kernel
theorem dX8_count_106 : decode cX8_count 106 = .ok (.ireturn, 1) := by decide +kernel
theorem dX8_count_107 : decode cX8_count 107 = .ok (.aload_n 0, 1) := by decide +kernel
theorem dX8_count_108 : decode cX8_count 108 = .ok (.getfield 46, 3) := by decide +kernel
theorem dX8_count_111 : decode cX8_count 111 = .ok (.getfield 167, 3) := by decide +kernel
theorem dX8_count_114 : decode cX8_count 114 = .ok (.ireturn, 1) := by decide +kernel
theorem dX8_count_115 : decode cX8_count 115 = .ok (.aload_n 0, 1) := by decide +kernel
theorem dX8_count_116 : decode cX8_count 116 = .ok (.getfield 46, 3) := by decide +kernel
theorem dX8_count_119 : decode cX8_count 119 = .ok (.getfield 170, 3) := by decide +kernel
theorem dX8_count_122 : decode cX8_count 122 = .ok (.ireturn, 1) := by decide +kernel
theorem dX8_count_123 : decode cX8_count 123 = .ok (.aload_n 0, 1) := by decide +kernel
theorem dX8_count_124 : decode cX8_count 124 = .ok (.getfield 32, 3) := by decide +kernel
theorem dX8_count_127 : decode cX8_count 127 = .ok (.getfield 173, 3) := by decide +kernel
theorem dX8_count_130 : decode cX8_count 130 = .ok (.ireturn, 1) := by decide +kernel
theorem dX8_count_131 : decode cX8_count 131 = .ok (.aload_n 0, 1) := by decide +kernel
theorem dX8_count_132 : decode cX8_count 132 = .ok (.getfield 32, 3) := by decide +kernel
theorem dX8_count_135 : decode cX8_count 135 = .ok (.getfield 176, 3) := by decide +kernel
theorem dX8_count_138 : decode cX8_count 138 = .ok (.ireturn, 1) := by decide +kernel
theorem dX8_count_139 : decode cX8_count 139 = .ok (.aload_n 0, 1) := by decide +kernel
theorem dX8_count_140 : decode cX8_count 140 = .ok (.getfield 158, 3) := by decide +kernel
theorem dX8_count_143 : decode cX8_count 143 = .ok (.ireturn, 1) := by decide +kernel
theorem dX8_count_144 : decode cX8_count 144 = .ok (.aload_n 0, 1) := by decide +kernel
theorem dX8_count_145 : decode cX8_count 145 = .ok (.getfield 161, 3) := by decide +kernel
theorem dX8_count_148 : decode cX8_count 148 = .ok (.ireturn, 1) := by decide +kernel
theorem dX8_count_149 : decode cX8_count 149 = .ok (.aload_n 0, 1) := by decide +kernel
theorem dX8_count_150 : decode cX8_count 150 = .ok (.getfield 179, 3) := by decide +kernel
theorem dX8_count_153 : decode cX8_count 153 = .ok (.ireturn, 1) := by decide +kernel
theorem dX8_count_154 : decode cX8_count 154 = .ok (.aload_n 0, 1) := by decide +kernel
theorem dX8_count_155 : decode cX8_count 155 = .ok (.getfield 32, 3) := by decide +kernel
theorem dX8_count_158 : decode cX8_count 158 = .ok (.getfield 182, 3) := by decide +kernel
theorem dX8_count_161 : decode cX8_count 161 = .ok (.ireturn, 1) := by decide +kernel
theorem dX8_count_162 : decode cX8_count 162 = .ok (.aload_n 0, 1) := by decide +kernel
theorem dX8_count_163 : decode cX8_count 163 = .ok (.getfield 32, 3) := by decide +kernel
theorem dX8_count_166 : decode cX8_count 166 = .ok (.getfield 185, 3) := by decide +kernel
theorem dX8_count_169 : decode cX8_count 169 = .ok (.ireturn, 1) := by decide +kernel
theorem dX8_count_170 : decode cX8_count 170 = .ok (.aload_n 0, 1) := by decide +kernel
theorem dX8_count_171 : decode cX8_count 171 = .ok (.getfield 32, 3) := by decide +kernel
theorem dX8_count_174 : decode cX8_count 174 = .ok (.getfield 188, 3) := by decide +kernel
theorem dX8_count_177 : decode cX8_count 177 = .ok (.ireturn, 1) := by decide +kernel
theorem dX8_count_178 : decode cX8_count 178 = .ok (.aload_n 0, 1) := by decide +kernel
theorem dX8_count_179 : decode cX8_count 179 = .ok (.getfield 57, 3) := by decide +kernel
theorem dX8_count_182 : decode cX8_count 182 = .ok (.getfield 191, 3) := by decide +kernel
theorem dX8_count_185 : decode cX8_count 185 = .ok (.ireturn, 1) := by decide +kernel
theorem dX8_count_186 : decode cX8_count 186 = .ok (.aload_n 0, 1) := by decide +kernel
theorem dX8_count_187 : decode cX8_count 187 = .ok (.getfield 18, 3) := by decide +kernel
theorem dX8_count_190 : decode cX8_count 190 = .ok (.getfield 194, 3) := by decide +kernel
theorem dX8_count_193 : decode cX8_count 193 = .ok (.arraylength, 1) := by decide +kernel
theorem dX8_count_194 : decode cX8_count 194 = .ok (.ireturn, 1) := by decide +kernel
theorem dX8_count_195 : decode cX8_count 195 = .ok (.aload_n 0, 1) := by decide +kernel
theorem dX8_count_196 : decode cX8_count 196 = .ok (.getfield 22, 3) := by decide +kernel
theorem dX8_count_199 : decode cX8_count 199 = .ok (.ireturn, 1) := by decide +kernel
theorem dX8_count_200 : decode cX8_count 200 = .ok (.aload_n 0, 1) := by decide +kernel
theorem dX8_count_201 : decode cX8_count 201 = .ok (.getfield 26, 3) := by decide +kernel
theorem dX8_count_204 : decode cX8_count 204 = .ok (.ireturn, 1) := by decide +kernel
theorem dX8_count_205 : decode cX8_count 205 = .ok (.iconst (-1), 1) := by decide +kernel
theorem dX8_count_206 : decode cX8_count 206 = .ok (.ireturn, 1) := by decide +kernel
theorem dX8_freeMany_0 : decode cX8_freeMany 0 = .ok (.aload_n 0, 1) := by decide +kernel
theorem dX8_freeMany_1 : decode cX8_freeMany 1 = .ok (.getfield 32, 3) := by decide +kernel
theorem dX8_freeMany_4 : decode cX8_freeMany 4 = .ok (.iload_n 1, 1) := by decide +kernel
theorem dX8_freeMany_5 : decode cX8_freeMany 5 = .ok (.invokevirtual 196, 3) := by decide +kernel
theorem dX8_freeMany_8 : decode cX8_freeMany 8 = .ok (.ireturn, 1) := by decide +kernel
theorem dX8_freeAt_0 : decode cX8_freeAt 0 = .ok (.aload_n 0, 1) := by decide +kernel
theorem dX8_freeAt_1 : decode cX8_freeAt 1 = .ok (.getfield 32, 3) := by decide +kernel
theorem dX8_freeAt_4 : decode cX8_freeAt 4 = .ok (.iload_n 1, 1) := by decide +kernel
theorem dX8_freeAt_5 : decode cX8_freeAt 5 = .ok (.iload_n 2, 1) := by decide +kernel
theorem dX8_freeAt_6 : decode cX8_freeAt 6 = .ok (.invokevirtual 199, 3) := by decide +kernel
theorem dX8_freeAt_9 : decode cX8_freeAt 9 = .ok (.ireturn, 1) := by decide +kernel
theorem dX8_waiting_0 : decode cX8_waiting 0 = .ok (.aload_n 0, 1) := by decide +kernel
theorem dX8_waiting_1 : decode cX8_waiting 1 = .ok (.getfield 46, 3) := by decide +kernel
theorem dX8_waiting_4 : decode cX8_waiting 4 = .ok (.iload_n 1, 1) := by decide +kernel
theorem dX8_waiting_5 : decode cX8_waiting 5 = .ok (.invokevirtual 202, 3) := by decide +kernel
theorem dX8_waiting_8 : decode cX8_waiting 8 = .ok (.astore_n 2, 1) := by decide +kernel
theorem dX8_waiting_9 : decode cX8_waiting 9 = .ok (.aload_n 2, 1) := by decide +kernel
theorem dX8_waiting_10 : decode cX8_waiting 10 = .ok (.ifnonnull 7, 3) := by decide +kernel
theorem dX8_waiting_13 : decode cX8_waiting 13 = .ok (.iconst (-1), 1) := by decide +kernel
theorem dX8_waiting_14 : decode cX8_waiting 14 = .ok (.goto 7, 3) := by decide +kernel
theorem dX8_waiting_17 : decode cX8_waiting 17 = .ok (.aload_n 2, 1) := by decide +kernel
theorem dX8_waiting_18 : decode cX8_waiting 18 = .ok (.getfield 74, 3) := by decide +kernel
theorem dX8_waiting_21 : decode cX8_waiting 21 = .ok (.ireturn, 1) := by decide +kernel
theorem dX8_fault_0 : decode cX8_fault 0 = .ok (.aload_n 0, 1) := by decide +kernel
theorem dX8_fault_1 : decode cX8_fault 1 = .ok (.getfield 57, 3) := by decide +kernel
theorem dX8_fault_4 : decode cX8_fault 4 = .ok (.iload_n 1, 1) := by decide +kernel
theorem dX8_fault_5 : decode cX8_fault 5 = .ok (.invokevirtual 205, 3) := by decide +kernel
theorem dX8_fault_8 : decode cX8_fault 8 = .ok (.ifCond .eq 12, 3) := by decide +kernel
theorem dX8_fault_11 : decode cX8_fault 11 = .ok (.iload_n 2, 1) := by decide +kernel
theorem dX8_fault_12 : decode cX8_fault 12 = .ok (.ifCond .lt 8, 3) := by decide +kernel
theorem dX8_fault_15 : decode cX8_fault 15 = .ok (.iload_n 2, 1) := by decide +kernel
theorem dX8_fault_16 : decode cX8_fault 16 = .ok (.iconst 1, 1) := by decide +kernel
theorem dX8_fault_17 : decode cX8_fault 17 = .ok (.if_icmp .le 13, 3) := by decide +kernel
theorem dX8_fault_20 : decode cX8_fault 20 = .ok (.new 125, 3) := by decide +kernel
theorem dX8_fault_23 : decode cX8_fault 23 = .ok (.dup, 1) := by decide +kernel
theorem dX8_fault_24 : decode cX8_fault 24 = .ok (.ldc 209, 2) := by decide +kernel
theorem dX8_fault_26 : decode cX8_fault 26 = .ok (.invokespecial 129, 3) := by decide +kernel
theorem dX8_fault_29 : decode cX8_fault 29 = .ok (.athrow, 1) := by decide +kernel
theorem dX8_fault_30 : decode cX8_fault 30 = .ok (.iload_n 2, 1) := by decide +kernel
theorem dX8_fault_31 : decode cX8_fault 31 = .ok (.ifCond .ne 14, 3) := by decide +kernel
theorem dX8_fault_34 : decode cX8_fault 34 = .ok (.aload_n 0, 1) := by decide +kernel
theorem dX8_fault_35 : decode cX8_fault 35 = .ok (.getfield 57, 3) := by decide +kernel
theorem dX8_fault_38 : decode cX8_fault 38 = .ok (.iload_n 1, 1) := by decide +kernel
theorem dX8_fault_39 : decode cX8_fault 39 = .ok (.invokevirtual 211, 3) := by decide +kernel
theorem dX8_fault_42 : decode cX8_fault 42 = .ok (.goto 11, 3) := by decide +kernel
theorem dX8_fault_45 : decode cX8_fault 45 = .ok (.aload_n 0, 1) := by decide +kernel
theorem dX8_fault_46 : decode cX8_fault 46 = .ok (.getfield 57, 3) := by decide +kernel
theorem dX8_fault_49 : decode cX8_fault 49 = .ok (.iload_n 1, 1) := by decide +kernel
theorem dX8_fault_50 : decode cX8_fault 50 = .ok (.invokevirtual 214, 3) := by decide +kernel
theorem dX8_fault_53 : decode cX8_fault 53 = .ok (.ireturn, 1) := by decide +kernel
theorem dX8_nearest_0 : decode cX8_nearest 0 = .ok (.iload_n 1, 1) := by decide +kernel
theorem dX8_nearest_1 : decode cX8_nearest 1 = .ok (.iload_n 2, 1) := by decide +kernel
theorem dX8_nearest_2 : decode cX8_nearest 2 = .ok (.iload_n 0, 1) := by decide +kernel
theorem dX8_nearest_3 : decode cX8_nearest 3 = .ok (.invokestatic 93, 3) := by decide +kernel
theorem dX8_nearest_6 : decode cX8_nearest 6 = .ok (.invokestatic 217, 3) := by decide +kernel
theorem dX8_nearest_9 : decode cX8_nearest 9 = .ok (.ireturn, 1) := by decide +kernel
theorem dX8_needed_0 : decode cX8_needed 0 = .ok (.iload_n 1, 1) := by decide +kernel
theorem dX8_needed_1 : decode cX8_needed 1 = .ok (.aload_n 0, 1) := by decide +kernel
theorem dX8_needed_2 : decode cX8_needed 2 = .ok (.getfield 18, 3) := by decide +kernel
theorem dX8_needed_5 : decode cX8_needed 5 = .ok (.getfield 194, 3) := by decide +kernel
theorem dX8_needed_8 : decode cX8_needed 8 = .ok (.arraylength, 1) := by decide +kernel
theorem dX8_needed_9 : decode cX8_needed 9 = .ok (.invokestatic 93, 3) := by decide +kernel
theorem dX8_needed_12 : decode cX8_needed 12 = .ok (.istore_n 2, 1) := by decide +kernel
theorem dX8_needed_13 : decode cX8_needed 13 = .ok (.iload_n 2, 1) := by decide +kernel
theorem dX8_needed_14 : decode cX8_needed 14 = .ok (.iconst 2, 1) := by decide +kernel
theorem dX8_needed_15 : decode cX8_needed 15 = .ok (.aload_n 0, 1) := by decide +kernel
theorem dX8_needed_16 : decode cX8_needed 16 = .ok (.getfield 22, 3) := by decide +kernel
theorem dX8_needed_19 : decode cX8_needed 19 = .ok (.imul, 1) := by decide +kernel
theorem dX8_needed_20 : decode cX8_needed 20 = .ok (.iadd, 1) := by decide +kernel
theorem dX8_needed_21 : decode cX8_needed 21 = .ok (.iconst 4, 1) := by decide +kernel
theorem dX8_needed_22 : decode cX8_needed 22 = .ok (.iadd, 1) := by decide +kernel
theorem dX8_needed_23 : decode cX8_needed 23 = .ok (.iconst 1, 1) := by decide +kernel
theorem dX8_needed_24 : decode cX8_needed 24 = .ok (.isub, 1) := by decide +kernel
theorem dX8_needed_25 : decode cX8_needed 25 = .ok (.iconst 4, 1) := by decide +kernel
theorem dX8_needed_26 : decode cX8_needed 26 = .ok (.idiv, 1) := by decide +kernel
theorem dX8_needed_27 : decode cX8_needed 27 = .ok (.iconst 4, 1) := by decide +kernel
theorem dX8_needed_28 : decode cX8_needed 28 = .ok (.imul, 1) := by decide +kernel
theorem dX8_needed_29 : decode cX8_needed 29 = .ok (.ireturn, 1) := by decide +kernel
theorem dX8_give_0 : decode cX8_give 0 = .ok (.aload_n 0, 1) := by decide +kernel
theorem dX8_give_1 : decode cX8_give 1 = .ok (.iload_n 1, 1) := by decide +kernel
theorem dX8_give_2 : decode cX8_give 2 = .ok (.invokevirtual 220, 3) := by decide +kernel
theorem dX8_give_5 : decode cX8_give 5 = .ok (.istore_n 2, 1) := by decide +kernel
theorem dX8_give_6 : decode cX8_give 6 = .ok (.aload_n 0, 1) := by decide +kernel
theorem dX8_give_7 : decode cX8_give 7 = .ok (.getfield 32, 3) := by decide +kernel
theorem dX8_give_10 : decode cX8_give 10 = .ok (.iload_n 2, 1) := by decide +kernel
theorem dX8_give_11 : decode cX8_give 11 = .ok (.invokevirtual 223, 3) := by decide +kernel
theorem dX8_give_14 : decode cX8_give 14 = .ok (.istore_n 3, 1) := by decide +kernel
theorem dX8_give_15 : decode cX8_give 15 = .ok (.aload_n 0, 1) := by decide +kernel
theorem dX8_give_16 : decode cX8_give 16 = .ok (.getfield 46, 3) := by decide +kernel
theorem dX8_give_19 : decode cX8_give 19 = .ok (.getfield 167, 3) := by decide +kernel
theorem dX8_give_22 : decode cX8_give 22 = .ok (.istore 4, 2) := by decide +kernel
theorem dX8_give_24 : decode cX8_give 24 = .ok (.iload_n 3, 1) := by decide +kernel
theorem dX8_give_25 : decode cX8_give 25 = .ok (.iconst (-1), 1) := by decide +kernel
theorem dX8_give_26 : decode cX8_give 26 = .ok (.if_icmp .ne 27, 3) := by decide +kernel
theorem dX8_give_29 : decode cX8_give 29 = .ok (.iload 4, 2) := by decide +kernel
theorem dX8_give_31 : decode cX8_give 31 = .ok (.ifCond .le 22, 3) := by decide +kernel
theorem dX8_give_34 : decode cX8_give 34 = .ok (.aload_n 0, 1) := by decide +kernel
theorem dX8_give_35 : decode cX8_give 35 = .ok (.invokevirtual 226, 3) := by decide +kernel
theorem dX8_give_38 : decode cX8_give 38 = .ok (.aload_n 0, 1) := by decide +kernel
theorem dX8_give_39 : decode cX8_give 39 = .ok (.getfield 32, 3) := by decide +kernel
theorem dX8_give_42 : decode cX8_give 42 = .ok (.iload_n 2, 1) := by decide +kernel
theorem dX8_give_43 : decode cX8_give 43 = .ok (.invokevirtual 223, 3) := by decide +kernel
theorem dX8_give_46 : decode cX8_give 46 = .ok (.istore_n 3, 1) := by decide +kernel
theorem dX8_give_47 : decode cX8_give 47 = .ok (.iinc 4 (-1), 3) := by decide +kernel
theorem dX8_give_50 : decode cX8_give 50 = .ok (.goto (-26), 3) := by decide +kernel
theorem dX8_give_53 : decode cX8_give 53 = .ok (.iload_n 3, 1) := by decide +kernel
theorem dX8_give_54 : decode cX8_give 54 = .ok (.iconst (-1), 1) := by decide +kernel
theorem dX8_give_55 : decode cX8_give 55 = .ok (.if_icmp .ne 5, 3) := by decide +kernel
theorem dX8_give_58 : decode cX8_give 58 = .ok (.aconst_null, 1) := by decide +kernel
theorem dX8_give_59 : decode cX8_give 59 = .ok (.areturn, 1) := by decide +kernel
theorem dX8_give_60 : decode cX8_give 60 = .ok (.new 75, 3) := by decide +kernel
theorem dX8_give_63 : decode cX8_give 63 = .ok (.dup, 1) := by decide +kernel
theorem dX8_give_64 : decode cX8_give 64 = .ok (.iload_n 3, 1) := by decide +kernel
theorem dX8_give_65 : decode cX8_give 65 = .ok (.iload_n 2, 1) := by decide +kernel
theorem dX8_give_66 : decode cX8_give 66 = .ok (.iload_n 3, 1) := by decide +kernel
theorem dX8_give_67 : decode cX8_give 67 = .ok (.aload_n 0, 1) := by decide +kernel
theorem dX8_give_68 : decode cX8_give 68 = .ok (.getfield 22, 3) := by decide +kernel
theorem dX8_give_71 : decode cX8_give 71 = .ok (.iadd, 1) := by decide +kernel
theorem dX8_give_72 : decode cX8_give 72 = .ok (.iload_n 1, 1) := by decide +kernel
theorem dX8_give_73 : decode cX8_give 73 = .ok (.aload_n 0, 1) := by decide +kernel
theorem dX8_give_74 : decode cX8_give 74 = .ok (.getfield 158, 3) := by decide +kernel
theorem dX8_give_77 : decode cX8_give 77 = .ok (.invokespecial 229, 3) := by decide +kernel
theorem dX8_give_80 : decode cX8_give 80 = .ok (.astore 4, 2) := by decide +kernel
theorem dX8_give_82 : decode cX8_give 82 = .ok (.aload_n 0, 1) := by decide +kernel
theorem dX8_give_83 : decode cX8_give 83 = .ok (.dup, 1) := by decide +kernel
theorem dX8_give_84 : decode cX8_give 84 = .ok (.getfield 158, 3) := by decide +kernel
theorem dX8_give_87 : decode cX8_give 87 = .ok (.iconst 1, 1) := by decide +kernel
theorem dX8_give_88 : decode cX8_give 88 = .ok (.iadd, 1) := by decide +kernel
theorem dX8_give_89 : decode cX8_give 89 = .ok (.putfield 158, 3) := by decide +kernel
theorem dX8_give_92 : decode cX8_give 92 = .ok (.aload_n 0, 1) := by decide +kernel
theorem dX8_give_93 : decode cX8_give 93 = .ok (.dup, 1) := by decide +kernel
theorem dX8_give_94 : decode cX8_give 94 = .ok (.getfield 164, 3) := by decide +kernel
theorem dX8_give_97 : decode cX8_give 97 = .ok (.iload_n 1, 1) := by decide +kernel
theorem dX8_give_98 : decode cX8_give 98 = .ok (.iadd, 1) := by decide +kernel
theorem dX8_give_99 : decode cX8_give 99 = .ok (.putfield 164, 3) := by decide +kernel
theorem dX8_give_102 : decode cX8_give 102 = .ok (.aload_n 0, 1) := by decide +kernel
theorem dX8_give_103 : decode cX8_give 103 = .ok (.getfield 18, 3) := by decide +kernel
theorem dX8_give_106 : decode cX8_give 106 = .ok (.aload 4, 2) := by decide +kernel
theorem dX8_give_108 : decode cX8_give 108 = .ok (.getfield 74, 3) := by decide +kernel
theorem dX8_give_111 : decode cX8_give 111 = .ok (.iload_n 1, 1) := by decide +kernel
theorem dX8_give_112 : decode cX8_give 112 = .ok (.invokevirtual 232, 3) := by decide +kernel
theorem dX8_give_115 : decode cX8_give 115 = .ok (.aload_n 0, 1) := by decide +kernel
theorem dX8_give_116 : decode cX8_give 116 = .ok (.getfield 39, 3) := by decide +kernel
theorem dX8_give_119 : decode cX8_give 119 = .ok (.aload 4, 2) := by decide +kernel
theorem dX8_give_121 : decode cX8_give 121 = .ok (.invokevirtual 235, 3) := by decide +kernel
theorem dX8_give_124 : decode cX8_give 124 = .ok (.aload 4, 2) := by decide +kernel
theorem dX8_give_126 : decode cX8_give 126 = .ok (.areturn, 1) := by decide +kernel
theorem dX8_putIntoQueue_0 : decode cX8_putIntoQueue 0 = .ok (.aload_n 1, 1) := by decide +kernel
theorem dX8_putIntoQueue_1 : decode cX8_putIntoQueue 1 = .ok (.iconst 0, 1) := by decide +kernel
theorem dX8_putIntoQueue_2 : decode cX8_putIntoQueue 2 = .ok (.putfield 138, 3) := by decide +kernel
theorem dX8_putIntoQueue_5 : decode cX8_putIntoQueue 5 = .ok (.aload_n 0, 1) := by decide +kernel
theorem dX8_putIntoQueue_6 : decode cX8_putIntoQueue 6 = .ok (.dup, 1) := by decide +kernel
theorem dX8_putIntoQueue_7 : decode cX8_putIntoQueue 7 = .ok (.getfield 161, 3) := by decide +kernel
theorem dX8_putIntoQueue_10 : decode cX8_putIntoQueue 10 = .ok (.iconst 1, 1) := by decide +kernel
theorem dX8_putIntoQueue_11 : decode cX8_putIntoQueue 11 = .ok (.iadd, 1) := by decide +kernel
theorem dX8_putIntoQueue_12 : decode cX8_putIntoQueue 12 = .ok (.putfield 161, 3) := by decide +kernel
theorem dX8_putIntoQueue_15 : decode cX8_putIntoQueue 15 = .ok (.aload_n 0, 1) := by decide +kernel
theorem dX8_putIntoQueue_16 : decode cX8_putIntoQueue 16 = .ok (.dup, 1) := by decide +kernel
theorem dX8_putIntoQueue_17 : decode cX8_putIntoQueue 17 = .ok (.getfield 164, 3) := by decide +kernel
theorem dX8_putIntoQueue_20 : decode cX8_putIntoQueue 20 = .ok (.aload_n 1, 1) := by decide +kernel
theorem dX8_putIntoQueue_21 : decode cX8_putIntoQueue 21 = .ok (.getfield 90, 3) := by decide +kernel
theorem dX8_putIntoQueue_24 : decode cX8_putIntoQueue 24 = .ok (.isub, 1) := by decide +kernel
theorem dX8_putIntoQueue_25 : decode cX8_putIntoQueue 25 = .ok (.putfield 164, 3) := by decide +kernel
theorem dX8_putIntoQueue_28 : decode cX8_putIntoQueue 28 = .ok (.aload_n 0, 1) := by decide +kernel
theorem dX8_putIntoQueue_29 : decode cX8_putIntoQueue 29 = .ok (.getfield 46, 3) := by decide +kernel
theorem dX8_putIntoQueue_32 : decode cX8_putIntoQueue 32 = .ok (.aload_n 1, 1) := by decide +kernel
theorem dX8_putIntoQueue_33 : decode cX8_putIntoQueue 33 = .ok (.invokevirtual 238, 3) := by decide +kernel
theorem dX8_putIntoQueue_36 : decode cX8_putIntoQueue 36 = .ok (.aload_n 0, 1) := by decide +kernel
theorem dX8_putIntoQueue_37 : decode cX8_putIntoQueue 37 = .ok (.getfield 46, 3) := by decide +kernel
theorem dX8_putIntoQueue_40 : decode cX8_putIntoQueue 40 = .ok (.getfield 167, 3) := by decide +kernel
theorem dX8_putIntoQueue_43 : decode cX8_putIntoQueue 43 = .ok (.istore_n 2, 1) := by decide +kernel
theorem dX8_putIntoQueue_44 : decode cX8_putIntoQueue 44 = .ok (.aload_n 0, 1) := by decide +kernel
theorem dX8_putIntoQueue_45 : decode cX8_putIntoQueue 45 = .ok (.getfield 46, 3) := by decide +kernel
theorem dX8_putIntoQueue_48 : decode cX8_putIntoQueue 48 = .ok (.getfield 170, 3) := by decide +kernel
theorem dX8_putIntoQueue_51 : decode cX8_putIntoQueue 51 = .ok (.aload_n 0, 1) := by decide +kernel
theorem dX8_putIntoQueue_52 : decode cX8_putIntoQueue 52 = .ok (.getfield 26, 3) := by decide +kernel
theorem dX8_putIntoQueue_55 : decode cX8_putIntoQueue 55 = .ok (.if_icmp .le 17, 3) := by decide +kernel
theorem dX8_putIntoQueue_58 : decode cX8_putIntoQueue 58 = .ok (.iload_n 2, 1) := by decide +kernel
theorem dX8_putIntoQueue_59 : decode cX8_putIntoQueue 59 = .ok (.ifCond .le 13, 3) := by decide +kernel
theorem dX8_putIntoQueue_62 : decode cX8_putIntoQueue 62 = .ok (.aload_n 0, 1) := by decide +kernel
theorem dX8_putIntoQueue_63 : decode cX8_putIntoQueue 63 = .ok (.invokevirtual 226, 3) := by decide +kernel
theorem dX8_putIntoQueue_66 : decode cX8_putIntoQueue 66 = .ok (.iinc 2 (-1), 3) := by decide +kernel
theorem dX8_putIntoQueue_69 : decode cX8_putIntoQueue 69 = .ok (.goto (-25), 3) := by decide +kernel
theorem dX8_putIntoQueue_72 : decode cX8_putIntoQueue 72 = .ok (.return_, 1) := by decide +kernel
theorem dX8_letLongestGo_0 : decode cX8_letLongestGo 0 = .ok (.aload_n 0, 1) := by decide +kernel
theorem dX8_letLongestGo_1 : decode cX8_letLongestGo 1 = .ok (.getfield 46, 3) := by decide +kernel
theorem dX8_letLongestGo_4 : decode cX8_letLongestGo 4 = .ok (.invokevirtual 241, 3) := by decide +kernel
theorem dX8_letLongestGo_7 : decode cX8_letLongestGo 7 = .ok (.astore_n 1, 1) := by decide +kernel
theorem dX8_letLongestGo_8 : decode cX8_letLongestGo 8 = .ok (.aload_n 1, 1) := by decide +kernel
theorem dX8_letLongestGo_9 : decode cX8_letLongestGo 9 = .ok (.ifnonnull 4, 3) := by decide +kernel
theorem dX8_letLongestGo_12 : decode cX8_letLongestGo 12 = .ok (.return_, 1) := by decide +kernel
theorem dX8_letLongestGo_13 : decode cX8_letLongestGo 13 = .ok (.aload_n 0, 1) := by decide +kernel
theorem dX8_letLongestGo_14 : decode cX8_letLongestGo 14 = .ok (.dup, 1) := by decide +kernel
theorem dX8_letLongestGo_15 : decode cX8_letLongestGo 15 = .ok (.getfield 179, 3) := by decide +kernel
theorem dX8_letLongestGo_18 : decode cX8_letLongestGo 18 = .ok (.iconst 1, 1) := by decide +kernel
theorem dX8_letLongestGo_19 : decode cX8_letLongestGo 19 = .ok (.iadd, 1) := by decide +kernel
theorem dX8_letLongestGo_20 : decode cX8_letLongestGo 20 = .ok (.putfield 179, 3) := by decide +kernel
theorem dX8_letLongestGo_23 : decode cX8_letLongestGo 23 = .ok (.aload_n 0, 1) := by decide +kernel
theorem dX8_letLongestGo_24 : decode cX8_letLongestGo 24 = .ok (.getfield 39, 3) := by decide +kernel
theorem dX8_letLongestGo_27 : decode cX8_letLongestGo 27 = .ok (.aload_n 1, 1) := by decide +kernel
theorem dX8_letLongestGo_28 : decode cX8_letLongestGo 28 = .ok (.invokevirtual 245, 3) := by decide +kernel
theorem dX8_letLongestGo_31 : decode cX8_letLongestGo 31 = .ok (.aload_n 0, 1) := by decide +kernel
theorem dX8_letLongestGo_32 : decode cX8_letLongestGo 32 = .ok (.getfield 32, 3) := by decide +kernel
theorem dX8_letLongestGo_35 : decode cX8_letLongestGo 35 = .ok (.aload_n 1, 1) := by decide +kernel
theorem dX8_letLongestGo_36 : decode cX8_letLongestGo 36 = .ok (.getfield 248, 3) := by decide +kernel
theorem dX8_letLongestGo_39 : decode cX8_letLongestGo 39 = .ok (.aload_n 1, 1) := by decide +kernel
theorem dX8_letLongestGo_40 : decode cX8_letLongestGo 40 = .ok (.getfield 132, 3) := by decide +kernel
theorem dX8_letLongestGo_43 : decode cX8_letLongestGo 43 = .ok (.invokevirtual 251, 3) := by decide +kernel
theorem dX8_letLongestGo_46 : decode cX8_letLongestGo 46 = .ok (.return_, 1) := by decide +kernel
theorem dX8_keepStartFault_0 : decode cX8_keepStartFault 0 = .ok (.aload_n 0, 1) := by decide +kernel
theorem dX8_keepStartFault_1 : decode cX8_keepStartFault 1 = .ok (.getfield 39, 3) := by decide +kernel
theorem dX8_keepStartFault_4 : decode cX8_keepStartFault 4 = .ok (.iload_n 1, 1) := by decide +kernel
theorem dX8_keepStartFault_5 : decode cX8_keepStartFault 5 = .ok (.invokevirtual 254, 3) := by decide +kernel
theorem dX8_keepStartFault_8 : decode cX8_keepStartFault 8 = .ok (.ifnonnull 7, 3) := by decide +kernel
theorem dX8_keepStartFault_11 : decode cX8_keepStartFault 11 = .ok (.iconst 5, 1) := by decide +kernel
theorem dX8_keepStartFault_12 : decode cX8_keepStartFault 12 = .ok (.goto 4, 3) := by decide +kernel
theorem dX8_keepStartFault_15 : decode cX8_keepStartFault 15 = .ok (.iconst 4, 1) := by decide +kernel
theorem dX8_keepStartFault_16 : decode cX8_keepStartFault 16 = .ok (.istore_n 2, 1) := by decide +kernel
theorem dX8_keepStartFault_17 : decode cX8_keepStartFault 17 = .ok (.aload_n 0, 1) := by decide +kernel
theorem dX8_keepStartFault_18 : decode cX8_keepStartFault 18 = .ok (.getfield 57, 3) := by decide +kernel
theorem dX8_keepStartFault_21 : decode cX8_keepStartFault 21 = .ok (.iload_n 2, 1) := by decide +kernel
theorem dX8_keepStartFault_22 : decode cX8_keepStartFault 22 = .ok (.iload_n 1, 1) := by decide +kernel
theorem dX8_keepStartFault_23 : decode cX8_keepStartFault 23 = .ok (.invokevirtual 106, 3) := by decide +kernel
theorem dX8_keepStartFault_26 : decode cX8_keepStartFault 26 = .ok (.iload_n 2, 1) := by decide +kernel
theorem dX8_keepStartFault_27 : decode cX8_keepStartFault 27 = .ok (.ireturn, 1) := by decide +kernel
theorem dX8_keepCopyFault_0 : decode cX8_keepCopyFault 0 = .ok (.aload_n 0, 1) := by decide +kernel
theorem dX8_keepCopyFault_1 : decode cX8_keepCopyFault 1 = .ok (.getfield 57, 3) := by decide +kernel
theorem dX8_keepCopyFault_4 : decode cX8_keepCopyFault 4 = .ok (.aload_n 0, 1) := by decide +kernel
theorem dX8_keepCopyFault_5 : decode cX8_keepCopyFault 5 = .ok (.getfield 39, 3) := by decide +kernel
theorem dX8_keepCopyFault_8 : decode cX8_keepCopyFault 8 = .ok (.iload_n 1, 1) := by decide +kernel
theorem dX8_keepCopyFault_9 : decode cX8_keepCopyFault 9 = .ok (.invokevirtual 103, 3) := by decide +kernel
theorem dX8_keepCopyFault_12 : decode cX8_keepCopyFault 12 = .ok (.iload_n 1, 1) := by decide +kernel
theorem dX8_keepCopyFault_13 : decode cX8_keepCopyFault 13 = .ok (.invokevirtual 106, 3) := by decide +kernel
theorem dX8_keepCopyFault_16 : decode cX8_keepCopyFault 16 = .ok (.bipush (-2), 2) := by decide +kernel
theorem dX8_keepCopyFault_18 : decode cX8_keepCopyFault 18 = .ok (.iload_n 2, 1) := by decide +kernel
theorem dX8_keepCopyFault_19 : decode cX8_keepCopyFault 19 = .ok (.isub, 1) := by decide +kernel
theorem dX8_keepCopyFault_20 : decode cX8_keepCopyFault 20 = .ok (.ireturn, 1) := by decide +kernel
theorem sgX8_init_0 {X : CX} {d mc ms cells slots : Nat} {pp : Hp → Prop} {h : Hp} {t : Nat} {x1 : Int32} {x2 : Int32} {x3 : Int32}  (C : CmV X mX8_init d mc ms pp) (hr1 : 1 ≤ d)  (k0 : At X cells slots 10 [some (va_rf (some t)), some (.int x1), some (.int x2), some (.int x3), none] [.int 3000, .int 64, .int x1] h) : At X cells slots 0 [some (va_rf (some t)), some (.int x1), some (.int x2), some (.int x3), none] [] h := by
  refine st_aload_n (pc := 0) C.1 (some t) dX8_init_0 rfl rfl ?_
  refine st_objInit (pc := 1) C.1 wM_RX8_1 wObjI wObjC dX8_init_1 (by rw [C.2.2.1]; exact hr1) (by rw [C.2.2.1]; exact Nat.le_trans (Nat.le_of_ble_eq_true rfl) (Nat.mul_le_mul_left 30 hr1)) ?_
  refine st_iload_n (pc := 4) C.1 dX8_init_4 rfl rfl ?_
  refine st_bipush (pc := 5) (v := 64) C.1 dX8_init_5 (by decide) ?_
  refine st_sipush (pc := 7) (v := 3000) C.1 dX8_init_7 (by decide) ?_
  exact k0

theorem sgX8_init_13 {X : CX} {d mc ms cells slots : Nat} {pp : Hp → Prop} {h : Hp} {t : Nat} {x1 : Int32} {x2 : Int32} {x3 : Int32} {u0 : Int32}  (C : CmV X mX8_init d mc ms pp)  (k0 : At X cells slots 16 [some (va_rf (some t)), some (.int x1), some (.int x2), some (.int x3), some (.int u0)] [va_rf (some t)] h) : At X cells slots 13 [some (va_rf (some t)), some (.int x1), some (.int x2), some (.int x3), none] [.int u0] h := by
  refine sv_istore (pc := 13) (i := 4) C.1 [some (va_rf (some t)), some (.int x1), some (.int x2), some (.int x3), some (.int u0)] dX8_init_13 (Nat.le_of_ble_eq_true rfl) (by rw [C.2.1]; exact Nat.le_of_ble_eq_true rfl) rfl rfl ?_
  refine st_aload_n (pc := 15) C.1 (some t) dX8_init_15 rfl rfl ?_
  exact k0

theorem sgX8_init_19 {X : CX} {d mc ms cells slots : Nat} {pp : Hp → Prop} {h : Hp} {t : Nat} {x1 : Int32} {x2 : Int32} {x3 : Int32} {x4 : Int32} {p0 : Option Nat} {p1 : Option Nat}  (C : CmV X mX8_init d mc ms pp)  (k0 : At X cells slots 22 [some (va_rf (some t)), some (.int x1), some (.int x2), some (.int x3), some (.int x4)] [.int x4, va_rf p0, va_rf p0, va_rf p1] h) : At X cells slots 19 [some (va_rf (some t)), some (.int x1), some (.int x2), some (.int x3), some (.int x4)] [va_rf p0, va_rf p1] h := by
  refine st_dup (pc := 19) C.1 dX8_init_19 (rf_cat p0) ?_
  refine st_iload (pc := 20) C.1 dX8_init_20 rfl ?_
  exact k0

theorem sgX8_init_25 {X : CX} {d mc ms cells slots : Nat} {pp : Hp → Prop} {h : Hp} {t : Nat} {x1 : Int32} {x2 : Int32} {x3 : Int32} {x4 : Int32} {p0 : Option Nat} {q1 : Nat}  (C : CmV X mX8_init d mc ms pp) (h0 : h.K q1 = 9) (k0 : At X cells slots 33 [some (va_rf (some t)), some (.int x1), some (.int x2), some (.int x3), some (.int x4)] [.int 8, .int 1, .int x2, va_rf (some t)] (h.sR 800 q1 p0)) : At X cells slots 25 [some (va_rf (some t)), some (.int x1), some (.int x2), some (.int x3), some (.int x4)] [va_rf p0, va_rf (some q1)] h := by
  refine pR_RX8_18 (pc := 25) C.1 p0 dX8_init_25 h0 C.2.2.2.2.1 ?_
  refine st_aload_n (pc := 28) C.1 (some t) dX8_init_28 rfl rfl ?_
  refine st_iload_n (pc := 29) C.1 dX8_init_29 rfl rfl ?_
  refine st_iconst (pc := 30) (v := 1) C.1 dX8_init_30 (by decide) ?_
  refine st_bipush (pc := 31) (v := 8) C.1 dX8_init_31 (by decide) ?_
  exact k0

theorem sgX8_init_36 {X : CX} {d mc ms cells slots : Nat} {pp : Hp → Prop} {h : Hp} {t : Nat} {x1 : Int32} {x2 : Int32} {x3 : Int32} {x4 : Int32} {u0 : Int32} {q1 : Nat}  (C : CmV X mX8_init d mc ms pp) (h0 : h.K q1 = 9) (k0 : At X cells slots 45 [some (va_rf (some t)), some (.int x1), some (.int x2), some (.int x3), some (.int x4)] [.int 3000, .int 0, .int x3, va_rf (some t)] (h.sI 801 q1 u0)) : At X cells slots 36 [some (va_rf (some t)), some (.int x1), some (.int x2), some (.int x3), some (.int x4)] [.int u0, va_rf (some q1)] h := by
  refine pI_RX8_22 (pc := 36) C.1 dX8_init_36 h0 C.2.2.2.2.1 ?_
  refine st_aload_n (pc := 39) C.1 (some t) dX8_init_39 rfl rfl ?_
  refine st_iload_n (pc := 40) C.1 dX8_init_40 rfl rfl ?_
  refine st_iconst (pc := 41) (v := 0) C.1 dX8_init_41 (by decide) ?_
  refine st_sipush (pc := 42) (v := 3000) C.1 dX8_init_42 (by decide) ?_
  exact k0

theorem sgX8_init_48 {X : CX} {d mc ms cells slots : Nat} {pp : Hp → Prop} {h : Hp} {t : Nat} {x1 : Int32} {x2 : Int32} {x3 : Int32} {x4 : Int32} {u0 : Int32} {q1 : Nat}  (C : CmV X mX8_init d mc ms pp) (h0 : h.K q1 = 9) (k0 : At X cells slots 52 [some (va_rf (some t)), some (.int x1), some (.int x2), some (.int x3), some (.int x4)] [va_rf (some t)] (h.sI 802 q1 u0)) : At X cells slots 48 [some (va_rf (some t)), some (.int x1), some (.int x2), some (.int x3), some (.int x4)] [.int u0, va_rf (some q1)] h := by
  refine pI_RX8_26 (pc := 48) C.1 dX8_init_48 h0 C.2.2.2.2.1 ?_
  refine st_aload_n (pc := 51) C.1 (some t) dX8_init_51 rfl rfl ?_
  exact k0

theorem sgX8_init_55 {X : CX} {d mc ms cells slots : Nat} {pp : Hp → Prop} {h : Hp} {t : Nat} {x1 : Int32} {x2 : Int32} {x3 : Int32} {x4 : Int32} {p0 : Option Nat} {p1 : Option Nat}  (C : CmV X mX8_init d mc ms pp)  (k0 : At X cells slots 58 [some (va_rf (some t)), some (.int x1), some (.int x2), some (.int x3), some (.int x4)] [.int x4, va_rf p0, va_rf p0, va_rf p1] h) : At X cells slots 55 [some (va_rf (some t)), some (.int x1), some (.int x2), some (.int x3), some (.int x4)] [va_rf p0, va_rf p1] h := by
  refine st_dup (pc := 55) C.1 dX8_init_55 (rf_cat p0) ?_
  refine st_iload (pc := 56) C.1 dX8_init_56 rfl ?_
  exact k0

theorem sgX8_init_61 {X : CX} {d mc ms cells slots : Nat} {pp : Hp → Prop} {h : Hp} {t : Nat} {x1 : Int32} {x2 : Int32} {x3 : Int32} {x4 : Int32} {p0 : Option Nat} {q1 : Nat}  (C : CmV X mX8_init d mc ms pp) (h0 : h.K q1 = 9) (k0 : At X cells slots 65 [some (va_rf (some t)), some (.int x1), some (.int x2), some (.int x3), some (.int x4)] [va_rf (some t)] (h.sR 803 q1 p0)) : At X cells slots 61 [some (va_rf (some t)), some (.int x1), some (.int x2), some (.int x3), some (.int x4)] [va_rf p0, va_rf (some q1)] h := by
  refine pR_RX8_32 (pc := 61) C.1 p0 dX8_init_61 h0 C.2.2.2.2.1 ?_
  refine st_aload_n (pc := 64) C.1 (some t) dX8_init_64 rfl rfl ?_
  exact k0

theorem sgX8_init_68 {X : CX} {d mc ms cells slots : Nat} {pp : Hp → Prop} {h : Hp} {t : Nat} {x1 : Int32} {x2 : Int32} {x3 : Int32} {x4 : Int32} {p0 : Option Nat} {p1 : Option Nat}  (C : CmV X mX8_init d mc ms pp)  (k0 : At X cells slots 75 [some (va_rf (some t)), some (.int x1), some (.int x2), some (.int x3), some (.int x4)] [.int ((x4 - 1) / 4), va_rf p0, va_rf p0, va_rf p1] h) : At X cells slots 68 [some (va_rf (some t)), some (.int x1), some (.int x2), some (.int x3), some (.int x4)] [va_rf p0, va_rf p1] h := by
  refine st_dup (pc := 68) C.1 dX8_init_68 (rf_cat p0) ?_
  refine st_iload (pc := 69) C.1 dX8_init_69 rfl ?_
  refine st_iconst (pc := 71) (v := 1) C.1 dX8_init_71 (by decide) ?_
  refine st_isub (pc := 72) C.1 dX8_init_72 ?_
  refine st_iconst (pc := 73) (v := 4) C.1 dX8_init_73 (by decide) ?_
  refine st_idiv (pc := 74) C.1 dX8_init_74 (by decide) ?_
  exact k0

theorem sgX8_init_78 {X : CX} {d mc ms cells slots : Nat} {pp : Hp → Prop} {h : Hp} {t : Nat} {x1 : Int32} {x2 : Int32} {x3 : Int32} {x4 : Int32} {p0 : Option Nat} {q1 : Nat}  (C : CmV X mX8_init d mc ms pp) (h0 : h.K q1 = 9) (k0 : At X cells slots 82 [some (va_rf (some t)), some (.int x1), some (.int x2), some (.int x3), some (.int x4)] [va_rf (some t)] (h.sR 804 q1 p0)) : At X cells slots 78 [some (va_rf (some t)), some (.int x1), some (.int x2), some (.int x3), some (.int x4)] [va_rf p0, va_rf (some q1)] h := by
  refine pR_RX8_39 (pc := 78) C.1 p0 dX8_init_78 h0 C.2.2.2.2.1 ?_
  refine st_aload_n (pc := 81) C.1 (some t) dX8_init_81 rfl rfl ?_
  exact k0

theorem sgX8_init_85 {X : CX} {d mc ms cells slots : Nat} {pp : Hp → Prop} {h : Hp} {t : Nat} {x1 : Int32} {x2 : Int32} {x3 : Int32} {x4 : Int32} {p0 : Option Nat} {p1 : Option Nat}  (C : CmV X mX8_init d mc ms pp)  (k0 : At X cells slots 86 [some (va_rf (some t)), some (.int x1), some (.int x2), some (.int x3), some (.int x4)] [va_rf p0, va_rf p0, va_rf p1] h) : At X cells slots 85 [some (va_rf (some t)), some (.int x1), some (.int x2), some (.int x3), some (.int x4)] [va_rf p0, va_rf p1] h := by
  refine st_dup (pc := 85) C.1 dX8_init_85 (rf_cat p0) ?_
  exact k0

theorem sgX8_init_89 {X : CX} {d mc ms cells slots : Nat} {pp : Hp → Prop} {h : Hp} {t : Nat} {x1 : Int32} {x2 : Int32} {x3 : Int32} {x4 : Int32} {p0 : Option Nat} {q1 : Nat}  (C : CmV X mX8_init d mc ms pp) (h0 : h.K q1 = 9) (k0 : At X cells slots 95 [some (va_rf (some t)), some (.int x1), some (.int x2), some (.int x3), some (.int x4)] [.int 16, va_rf (some t)] (h.sR 805 q1 p0)) : At X cells slots 89 [some (va_rf (some t)), some (.int x1), some (.int x2), some (.int x3), some (.int x4)] [va_rf p0, va_rf (some q1)] h := by
  refine pR_RX8_46 (pc := 89) C.1 p0 dX8_init_89 h0 C.2.2.2.2.1 ?_
  refine st_aload_n (pc := 92) C.1 (some t) dX8_init_92 rfl rfl ?_
  refine st_bipush (pc := 93) (v := 16) C.1 dX8_init_93 (by decide) ?_
  exact k0

theorem sgX8_init_97 {X : CX} {d mc ms cells slots : Nat} {pp : Hp → Prop} {h : Hp} {t : Nat} {x1 : Int32} {x2 : Int32} {x3 : Int32} {x4 : Int32} {p0 : Option Nat} {q1 : Nat}  (C : CmV X mX8_init d mc ms pp) (h0 : h.K q1 = 9) (k0 : At X cells slots 101 [some (va_rf (some t)), some (.int x1), some (.int x2), some (.int x3), some (.int x4)] [va_rf (some t)] (h.sR 806 q1 p0)) : At X cells slots 97 [some (va_rf (some t)), some (.int x1), some (.int x2), some (.int x3), some (.int x4)] [va_rf p0, va_rf (some q1)] h := by
  refine pR_RX8_50 (pc := 97) C.1 p0 dX8_init_97 h0 C.2.2.2.2.1 ?_
  refine st_aload_n (pc := 100) C.1 (some t) dX8_init_100 rfl rfl ?_
  exact k0

theorem sgX8_init_104 {X : CX} {d mc ms cells slots : Nat} {pp : Hp → Prop} {h : Hp} {t : Nat} {x1 : Int32} {x2 : Int32} {x3 : Int32} {x4 : Int32} {p0 : Option Nat} {p1 : Option Nat}  (C : CmV X mX8_init d mc ms pp)  (k0 : At X cells slots 105 [some (va_rf (some t)), some (.int x1), some (.int x2), some (.int x3), some (.int x4)] [va_rf p0, va_rf p0, va_rf p1] h) : At X cells slots 104 [some (va_rf (some t)), some (.int x1), some (.int x2), some (.int x3), some (.int x4)] [va_rf p0, va_rf p1] h := by
  refine st_dup (pc := 104) C.1 dX8_init_104 (rf_cat p0) ?_
  exact k0

theorem sgX8_init_108 {X : CX} {d mc ms cells slots : Nat} {pp : Hp → Prop} {h : Hp} {t : Nat} {x1 : Int32} {x2 : Int32} {x3 : Int32} {x4 : Int32} {p0 : Option Nat} {q1 : Nat}  (C : CmV X mX8_init d mc ms pp) (h0 : h.K q1 = 9) (k0 : At X cells slots 112 [some (va_rf (some t)), some (.int x1), some (.int x2), some (.int x3), some (.int x4)] [va_rf (some t)] (h.sR 807 q1 p0)) : At X cells slots 108 [some (va_rf (some t)), some (.int x1), some (.int x2), some (.int x3), some (.int x4)] [va_rf p0, va_rf (some q1)] h := by
  refine pR_RX8_57 (pc := 108) C.1 p0 dX8_init_108 h0 C.2.2.2.2.1 ?_
  refine st_aload_n (pc := 111) C.1 (some t) dX8_init_111 rfl rfl ?_
  exact k0

theorem sgX8_init_115 {X : CX} {d mc ms cells slots : Nat} {pp : Hp → Prop} {h : Hp} {t : Nat} {x1 : Int32} {x2 : Int32} {x3 : Int32} {x4 : Int32} {p0 : Option Nat} {p1 : Option Nat}  (C : CmV X mX8_init d mc ms pp) (h0 : h.K t = 9) (k0 : At X cells slots 128 [some (va_rf (some t)), some (.int x1), some (.int x2), some (.int x3), some (.int x4)] [va_rf (h.R 806 t), va_rf (h.R 800 t), va_rf (h.R 804 t), va_rf p0, va_rf p0, va_rf p1] h) : At X cells slots 115 [some (va_rf (some t)), some (.int x1), some (.int x2), some (.int x3), some (.int x4)] [va_rf p0, va_rf p1] h := by
  refine st_dup (pc := 115) C.1 dX8_init_115 (rf_cat p0) ?_
  refine st_aload_n (pc := 116) C.1 (some t) dX8_init_116 rfl rfl ?_
  refine gR_RX8_39 (pc := 117) C.1 (h.R 804 t) dX8_init_117 h0 rfl ?_
  refine st_aload_n (pc := 120) C.1 (some t) dX8_init_120 rfl rfl ?_
  refine gR_RX8_18 (pc := 121) C.1 (h.R 800 t) dX8_init_121 h0 rfl ?_
  refine st_aload_n (pc := 124) C.1 (some t) dX8_init_124 rfl rfl ?_
  refine gR_RX8_50 (pc := 125) C.1 (h.R 806 t) dX8_init_125 h0 rfl ?_
  exact k0

theorem sgX8_init_131 {X : CX} {d mc ms cells slots : Nat} {pp : Hp → Prop} {h : Hp} {t : Nat} {x1 : Int32} {x2 : Int32} {x3 : Int32} {x4 : Int32} {p0 : Option Nat} {q1 : Nat}  (C : CmV X mX8_init d mc ms pp) (hc : cells ≤ mc) (hs : slots ≤ ms) (h0 : h.K q1 = 9) (k0 : pp (h.sR 808 q1 p0)) : At X cells slots 131 [some (va_rf (some t)), some (.int x1), some (.int x2), some (.int x3), some (.int x4)] [va_rf p0, va_rf (some q1)] h := by
  refine pR_RX8_66 (pc := 131) C.1 p0 dX8_init_131 h0 C.2.2.2.2.1 ?_
  exact rt_v C rfl dX8_init_134 hc hs ⟨rfl, k0⟩

theorem clX8_init_10 {X : CX} {d0 mc0 ms0 d mc ms cells slots : Nat} {pp : Hp → Prop} {h : Hp} {ls : List (Option Value)} {rest : List Value} {a0 a1 a2 : Value} {post : Int32 → Hp → Prop} (C : CmV X mX8_init d0 mc0 ms0 pp) (hct : CtI mX8_nearest d mc ms [a0, a1, a2] h post) (hdd : d < d0) (hmc : cells + mc ≤ mc0) (hms : slots + ms ≤ ms0) (hcat : (rest.map fun v => v.category).sum ≤ 8) (kk : ∀ r h', post r h' → At X (cells + mc) (slots + ms) 13 ls (.int r :: rest) h') : At X cells slots 10 ls (a2 :: a1 :: a0 :: rest) h :=
  st_callS (pc := 10) (M := mX8_nearest) (idx := 9) (As := [a0, a1, a2]) C.1 C.2.2.1 C.2.2.2.2.2.2 (n := 3) ⟨wM_RX8_9, wC_X8_nearest, wI_RX8, by decide +kernel, by decide⟩ wT_X8_nearest dX8_init_10 rfl hdd hcat hct hmc hms (fun v h2 hp => by obtain ⟨r, rfl, hp⟩ := hp; exact kk r h2 hp)
theorem nwX8_init_16 {X : CX} {d0 mc0 ms0 cells slots : Nat} {pp : Hp → Prop} {h : Hp} {ls : List (Option Value)} {st : List Value} (C : CmV X mX8_init d0 mc0 ms0 pp) (hmc : cells + 1 ≤ mc0) (hms : slots + 1 ≤ ms0) (kk : ∀ q, h.K q = 0 → At X (cells + 1) (slots + 1) 19 ls (va_rf (some q) :: st) (h.nw q 7 0)) : At X cells slots 16 ls st h :=
  st_new (pc := 16) (ci := 6) C.1 rfl gX6 tyX6_ok wK_RX8_13 wN_RX6 wI_RX6 dX8_init_16 (by decide) (by decide) (by rw [C.2.2.1]; exact hmc) (by rw [C.2.2.1]; exact hms) kk
theorem clX8_init_22 {X : CX} {d0 mc0 ms0 d mc ms cells slots : Nat} {pp : Hp → Prop} {h : Hp} {ls : List (Option Value)} {rest : List Value} {b : Nat} {a0 : Value} {post : Hp → Prop} (C : CmV X mX8_init d0 mc0 ms0 pp) (hct : CtV mX6_init d mc ms [va_rf (some b), a0] h post) (hdd : d < d0) (hmc : cells + mc ≤ mc0) (hms : slots + ms ≤ ms0) (hcat : (rest.map fun v => v.category).sum ≤ 8) (kk : ∀ h', post h' → At X (cells + mc) (slots + ms) 25 ls rest h') : At X cells slots 22 ls (a0 :: va_rf (some b) :: rest) h :=
  st_callI (pc := 22) (M := mX6_init) (idx := 15) (As := [a0]) C.1 C.2.2.1 C.2.2.2.2.2.2 rfl (n := 1) ⟨wM_RX8_15, wC_X6_init, wI_RX6, by decide +kernel, by decide⟩ wV_X6_init rfl dX8_init_22 rfl hdd hcat hct hmc hms (fun v h2 hp => by obtain ⟨rfl, hp⟩ := hp; exact kk h2 hp)
theorem clX8_init_33 {X : CX} {d0 mc0 ms0 d mc ms cells slots : Nat} {pp : Hp → Prop} {h : Hp} {ls : List (Option Value)} {rest : List Value} {a0 a1 a2 : Value} {post : Int32 → Hp → Prop} (C : CmV X mX8_init d0 mc0 ms0 pp) (hct : CtI mX8_nearest d mc ms [a0, a1, a2] h post) (hdd : d < d0) (hmc : cells + mc ≤ mc0) (hms : slots + ms ≤ ms0) (hcat : (rest.map fun v => v.category).sum ≤ 8) (kk : ∀ r h', post r h' → At X (cells + mc) (slots + ms) 36 ls (.int r :: rest) h') : At X cells slots 33 ls (a2 :: a1 :: a0 :: rest) h :=
  st_callS (pc := 33) (M := mX8_nearest) (idx := 9) (As := [a0, a1, a2]) C.1 C.2.2.1 C.2.2.2.2.2.2 (n := 3) ⟨wM_RX8_9, wC_X8_nearest, wI_RX8, by decide +kernel, by decide⟩ wT_X8_nearest dX8_init_33 rfl hdd hcat hct hmc hms (fun v h2 hp => by obtain ⟨r, rfl, hp⟩ := hp; exact kk r h2 hp)
theorem clX8_init_45 {X : CX} {d0 mc0 ms0 d mc ms cells slots : Nat} {pp : Hp → Prop} {h : Hp} {ls : List (Option Value)} {rest : List Value} {a0 a1 a2 : Value} {post : Int32 → Hp → Prop} (C : CmV X mX8_init d0 mc0 ms0 pp) (hct : CtI mX8_nearest d mc ms [a0, a1, a2] h post) (hdd : d < d0) (hmc : cells + mc ≤ mc0) (hms : slots + ms ≤ ms0) (hcat : (rest.map fun v => v.category).sum ≤ 8) (kk : ∀ r h', post r h' → At X (cells + mc) (slots + ms) 48 ls (.int r :: rest) h') : At X cells slots 45 ls (a2 :: a1 :: a0 :: rest) h :=
  st_callS (pc := 45) (M := mX8_nearest) (idx := 9) (As := [a0, a1, a2]) C.1 C.2.2.1 C.2.2.2.2.2.2 (n := 3) ⟨wM_RX8_9, wC_X8_nearest, wI_RX8, by decide +kernel, by decide⟩ wT_X8_nearest dX8_init_45 rfl hdd hcat hct hmc hms (fun v h2 hp => by obtain ⟨r, rfl, hp⟩ := hp; exact kk r h2 hp)
theorem nwX8_init_52 {X : CX} {d0 mc0 ms0 cells slots : Nat} {pp : Hp → Prop} {h : Hp} {ls : List (Option Value)} {st : List Value} (C : CmV X mX8_init d0 mc0 ms0 pp) (hmc : cells + 1 ≤ mc0) (hms : slots + 9 ≤ ms0) (kk : ∀ q, h.K q = 0 → At X (cells + 1) (slots + 9) 55 ls (va_rf (some q) :: st) (h.nw q 4 0)) : At X cells slots 52 ls st h :=
  st_new (pc := 52) (ci := 3) C.1 rfl gX3 tyX3_ok wK_RX8_29 wN_RX3 wI_RX3 dX8_init_52 (by decide) (by decide) (by rw [C.2.2.1]; exact hmc) (by rw [C.2.2.1]; exact hms) kk
theorem clX8_init_58 {X : CX} {d0 mc0 ms0 d mc ms cells slots : Nat} {pp : Hp → Prop} {h : Hp} {ls : List (Option Value)} {rest : List Value} {b : Nat} {a0 : Value} {post : Hp → Prop} (C : CmV X mX8_init d0 mc0 ms0 pp) (hct : CtV mX3_init d mc ms [va_rf (some b), a0] h post) (hdd : d < d0) (hmc : cells + mc ≤ mc0) (hms : slots + ms ≤ ms0) (hcat : (rest.map fun v => v.category).sum ≤ 8) (kk : ∀ h', post h' → At X (cells + mc) (slots + ms) 61 ls rest h') : At X cells slots 58 ls (a0 :: va_rf (some b) :: rest) h :=
  st_callI (pc := 58) (M := mX3_init) (idx := 31) (As := [a0]) C.1 C.2.2.1 C.2.2.2.2.2.2 rfl (n := 1) ⟨wM_RX8_31, wC_X3_init, wI_RX3, by decide +kernel, by decide⟩ wV_X3_init rfl dX8_init_58 rfl hdd hcat hct hmc hms (fun v h2 hp => by obtain ⟨rfl, hp⟩ := hp; exact kk h2 hp)
theorem nwX8_init_65 {X : CX} {d0 mc0 ms0 cells slots : Nat} {pp : Hp → Prop} {h : Hp} {ls : List (Option Value)} {st : List Value} (C : CmV X mX8_init d0 mc0 ms0 pp) (hmc : cells + 1 ≤ mc0) (hms : slots + 1 ≤ ms0) (kk : ∀ q, h.K q = 0 → At X (cells + 1) (slots + 1) 68 ls (va_rf (some q) :: st) (h.nw q 2 0)) : At X cells slots 65 ls st h :=
  st_new (pc := 65) (ci := 1) C.1 rfl gX1 tyX1_ok wK_RX8_36 wN_RX1 wI_RX1 dX8_init_65 (by decide) (by decide) (by rw [C.2.2.1]; exact hmc) (by rw [C.2.2.1]; exact hms) kk
theorem clX8_init_75 {X : CX} {d0 mc0 ms0 d mc ms cells slots : Nat} {pp : Hp → Prop} {h : Hp} {ls : List (Option Value)} {rest : List Value} {b : Nat} {a0 : Value} {post : Hp → Prop} (C : CmV X mX8_init d0 mc0 ms0 pp) (hct : CtV mX1_init d mc ms [va_rf (some b), a0] h post) (hdd : d < d0) (hmc : cells + mc ≤ mc0) (hms : slots + ms ≤ ms0) (hcat : (rest.map fun v => v.category).sum ≤ 8) (kk : ∀ h', post h' → At X (cells + mc) (slots + ms) 78 ls rest h') : At X cells slots 75 ls (a0 :: va_rf (some b) :: rest) h :=
  st_callI (pc := 75) (M := mX1_init) (idx := 38) (As := [a0]) C.1 C.2.2.1 C.2.2.2.2.2.2 rfl (n := 1) ⟨wM_RX8_38, wC_X1_init, wI_RX1, by decide +kernel, by decide⟩ wV_X1_init rfl dX8_init_75 rfl hdd hcat hct hmc hms (fun v h2 hp => by obtain ⟨rfl, hp⟩ := hp; exact kk h2 hp)
theorem nwX8_init_82 {X : CX} {d0 mc0 ms0 cells slots : Nat} {pp : Hp → Prop} {h : Hp} {ls : List (Option Value)} {st : List Value} (C : CmV X mX8_init d0 mc0 ms0 pp) (hmc : cells + 1 ≤ mc0) (hms : slots + 4 ≤ ms0) (kk : ∀ q, h.K q = 0 → At X (cells + 1) (slots + 4) 85 ls (va_rf (some q) :: st) (h.nw q 8 0)) : At X cells slots 82 ls st h :=
  st_new (pc := 82) (ci := 7) C.1 rfl gX7 tyX7_ok wK_RX8_43 wN_RX7 wI_RX7 dX8_init_82 (by decide) (by decide) (by rw [C.2.2.1]; exact hmc) (by rw [C.2.2.1]; exact hms) kk
theorem clX8_init_86 {X : CX} {d0 mc0 ms0 d mc ms cells slots : Nat} {pp : Hp → Prop} {h : Hp} {ls : List (Option Value)} {rest : List Value} {b : Nat} {post : Hp → Prop} (C : CmV X mX8_init d0 mc0 ms0 pp) (hct : CtV mX7_init d mc ms [va_rf (some b)] h post) (hdd : d < d0) (hmc : cells + mc ≤ mc0) (hms : slots + ms ≤ ms0) (hcat : (rest.map fun v => v.category).sum ≤ 8) (kk : ∀ h', post h' → At X (cells + mc) (slots + ms) 89 ls rest h') : At X cells slots 86 ls (va_rf (some b) :: rest) h :=
  st_callIN (pc := 86) (M := mX7_init) (idx := 45) (As := []) C.1 C.2.2.1 C.2.2.2.2.2.2 rfl (n := 0) (host := RX8) C.1.2.2.2.2.2.2.2.2.2.2 ⟨wC_X7_init, wI_RX7, by decide +kernel, by decide⟩ wV_X7_init rfl dX8_init_86 rfl hdd hcat hct hmc hms (fun v h2 hp => by obtain ⟨rfl, hp⟩ := hp; exact kk h2 hp)
theorem nwX8_init_95 {X : CX} {d0 mc0 ms0 cells slots : Nat} {pp : Hp → Prop} {h : Hp} {ls : List (Option Value)} {st : List Value} {n : Int32} (C : CmV X mX8_init d0 mc0 ms0 pp) (hn : ¬ n < 0) (hb : n.toNatClampNeg ≤ 60000000) (hmc : cells + 1 ≤ mc0) (hms : slots + n.toNatClampNeg ≤ ms0) (kk : ∀ q, h.K q = 0 → At X (cells + 1) (slots + n.toNatClampNeg) 97 ls (va_rf (some q) :: st) (h.nw q 11 n.toNatClampNeg)) : At X cells slots 95 ls (.int n :: st) h :=
  st_newarray (pc := 95) C.1 11 0 (by simp) wA_int dX8_init_95 hn hb (by rw [C.2.2.1]; exact hmc) (by rw [C.2.2.1]; exact hms) kk
theorem nwX8_init_101 {X : CX} {d0 mc0 ms0 cells slots : Nat} {pp : Hp → Prop} {h : Hp} {ls : List (Option Value)} {st : List Value} (C : CmV X mX8_init d0 mc0 ms0 pp) (hmc : cells + 1 ≤ mc0) (hms : slots + 3 ≤ ms0) (kk : ∀ q, h.K q = 0 → At X (cells + 1) (slots + 3) 104 ls (va_rf (some q) :: st) (h.nw q 5 0)) : At X cells slots 101 ls st h :=
  st_new (pc := 101) (ci := 4) C.1 rfl gX4 tyX4_ok wK_RX8_54 wN_RX4 wI_RX4 dX8_init_101 (by decide) (by decide) (by rw [C.2.2.1]; exact hmc) (by rw [C.2.2.1]; exact hms) kk
theorem clX8_init_105 {X : CX} {d0 mc0 ms0 d mc ms cells slots : Nat} {pp : Hp → Prop} {h : Hp} {ls : List (Option Value)} {rest : List Value} {b : Nat} {post : Hp → Prop} (C : CmV X mX8_init d0 mc0 ms0 pp) (hct : CtV mX4_init d mc ms [va_rf (some b)] h post) (hdd : d < d0) (hmc : cells + mc ≤ mc0) (hms : slots + ms ≤ ms0) (hcat : (rest.map fun v => v.category).sum ≤ 8) (kk : ∀ h', post h' → At X (cells + mc) (slots + ms) 108 ls rest h') : At X cells slots 105 ls (va_rf (some b) :: rest) h :=
  st_callI (pc := 105) (M := mX4_init) (idx := 56) (As := []) C.1 C.2.2.1 C.2.2.2.2.2.2 rfl (n := 0) ⟨wM_RX8_56, wC_X4_init, wI_RX4, by decide +kernel, by decide⟩ wV_X4_init rfl dX8_init_105 rfl hdd hcat hct hmc hms (fun v h2 hp => by obtain ⟨rfl, hp⟩ := hp; exact kk h2 hp)
theorem nwX8_init_112 {X : CX} {d0 mc0 ms0 cells slots : Nat} {pp : Hp → Prop} {h : Hp} {ls : List (Option Value)} {st : List Value} (C : CmV X mX8_init d0 mc0 ms0 pp) (hmc : cells + 1 ≤ mc0) (hms : slots + 7 ≤ ms0) (kk : ∀ q, h.K q = 0 → At X (cells + 1) (slots + 7) 115 ls (va_rf (some q) :: st) (h.nw q 6 0)) : At X cells slots 112 ls st h :=
  st_new (pc := 112) (ci := 5) C.1 rfl gX5 tyX5_ok wK_RX8_61 wN_RX5 wI_RX5 dX8_init_112 (by decide) (by decide) (by rw [C.2.2.1]; exact hmc) (by rw [C.2.2.1]; exact hms) kk
theorem clX8_init_128 {X : CX} {d0 mc0 ms0 d mc ms cells slots : Nat} {pp : Hp → Prop} {h : Hp} {ls : List (Option Value)} {rest : List Value} {b : Nat} {a0 a1 a2 : Value} {post : Hp → Prop} (C : CmV X mX8_init d0 mc0 ms0 pp) (hct : CtV mX5_init d mc ms [va_rf (some b), a0, a1, a2] h post) (hdd : d < d0) (hmc : cells + mc ≤ mc0) (hms : slots + ms ≤ ms0) (hcat : (rest.map fun v => v.category).sum ≤ 8) (kk : ∀ h', post h' → At X (cells + mc) (slots + ms) 131 ls rest h') : At X cells slots 128 ls (a2 :: a1 :: a0 :: va_rf (some b) :: rest) h :=
  st_callI (pc := 128) (M := mX5_init) (idx := 63) (As := [a0, a1, a2]) C.1 C.2.2.1 C.2.2.2.2.2.2 rfl (n := 3) ⟨wM_RX8_63, wC_X5_init, wI_RX5, by decide +kernel, by decide⟩ wV_X5_init rfl dX8_init_128 rfl hdd hcat hct hmc hms (fun v h2 hp => by obtain ⟨rfl, hp⟩ := hp; exact kk h2 hp)
theorem sgX8_alloc_0 {X : CX} {d mc ms cells slots : Nat} {pp : Int32 → Hp → Prop} {h : Hp} {t : Nat} {x1 : Int32}  (C : CmI X mX8_alloc d mc ms pp) (hc : cells ≤ mc) (hs : slots ≤ ms)  (k0 : 1 ≤ x1 → At X cells slots 9 [some (va_rf (some t)), some (.int x1), none] [.int x1, va_rf (some t)] h) (k1 : ¬ 1 ≤ x1 → pp 0 h) : At X cells slots 0 [some (va_rf (some t)), some (.int x1), none] [] h := by
  refine st_iload_n (pc := 0) C.1 dX8_alloc_0 rfl rfl ?_
  refine st_iconst (pc := 1) (v := 1) C.1 dX8_alloc_1 (by decide) ?_
  refine st_icmp_ge (pc := 2) (tgt := 7) C.1 dX8_alloc_2 (by decide) (fun c0 => ?_) (fun c0 => ?_)
  · refine st_aload_n (pc := 7) C.1 (some t) dX8_alloc_7 rfl rfl ?_
    refine st_iload_n (pc := 8) C.1 dX8_alloc_8 rfl rfl ?_
    exact (k0 c0)
  · refine st_iconst (pc := 5) (v := 0) C.1 dX8_alloc_5 (by decide) ?_
    exact rt_i C (Or.inl rfl) dX8_alloc_6 hc hs ⟨_, rfl, (k1 c0)⟩

theorem sgX8_alloc_12 {X : CX} {d mc ms cells slots : Nat} {pp : Int32 → Hp → Prop} {h : Hp} {t : Nat} {x1 : Int32} {p0 : Option Nat}  (C : CmI X mX8_alloc d mc ms pp) (hc : cells ≤ mc) (hs : slots ≤ ms) (h0 : ∀ z0 : Nat, p0 = some z0 → h.K z0 = 1) (k0 : ∀ z0 : Nat, p0 = some z0 → pp (h.I 2 z0) h) (k1 : p0 = none → pp 0 h) : At X cells slots 12 [some (va_rf (some t)), some (.int x1), none] [va_rf p0] h := by
  refine sv_astore_n (pc := 12) (i := 2) C.1 [some (va_rf (some t)), some (.int x1), some (va_rf p0)] p0 dX8_alloc_12 rfl (Nat.le_of_ble_eq_true rfl) (by rw [C.2.1]; exact Nat.le_of_ble_eq_true rfl) rfl rfl ?_
  refine st_aload_n (pc := 13) C.1 p0 dX8_alloc_13 rfl rfl ?_
  refine st_ifnonnull (pc := 14) (o := p0) (tgt := 21) C.1 dX8_alloc_14 (by decide) (fun z0 c0 => ?_) (fun c0 => ?_)
  · try rw [c0]
    refine st_aload_n (pc := 21) C.1 (some z0) dX8_alloc_21 rfl rfl ?_
    refine gI_RX8_74 (pc := 22) C.1 (h.I 2 z0) dX8_alloc_22 (h0 z0 c0) rfl ?_
    exact rt_i C (Or.inl rfl) dX8_alloc_25 hc hs ⟨_, rfl, (k0 z0 c0)⟩
  · try rw [c0]
    refine st_iconst (pc := 17) (v := 0) C.1 dX8_alloc_17 (by decide) ?_
    refine st_goto (pc := 18) (tgt := 25) C.1 dX8_alloc_18 (by decide) ?_
    exact rt_i C (Or.inl rfl) dX8_alloc_25 hc hs ⟨_, rfl, (k1 c0)⟩

theorem clX8_alloc_9 {X : CX} {d0 mc0 ms0 d mc ms cells slots : Nat} {pp : Int32 → Hp → Prop} {h : Hp} {ls : List (Option Value)} {rest : List Value} {b : Nat} {a0 : Value} {post : Option Nat → Hp → Prop} (C : CmI X mX8_alloc d0 mc0 ms0 pp) (hct : CtR mX8_give d mc ms [va_rf (some b), a0] h post) (hK : h.K b = 9) (hdd : d < d0) (hmc : cells + mc ≤ mc0) (hms : slots + ms ≤ ms0) (hcat : (rest.map fun v => v.category).sum ≤ 8) (kk : ∀ o h', post o h' → At X (cells + mc) (slots + ms) 12 ls (va_rf o :: rest) h') : At X cells slots 9 ls (a0 :: va_rf (some b) :: rest) h :=
  st_callV (pc := 9) (M := mX8_give) (idx := 70) (As := [a0]) C.1 C.2.2.1 C.2.2.2.2.2.2 ⟨wM_RX8_70, wC_X8_give, wI_RX8, by decide +kernel, by decide⟩ wV_X8_give wS_X8_give (ci := 8) (n := 1) rfl rfl (by decide) dX8_alloc_9 rfl hdd hcat hK hct hmc hms (fun v h2 hp => by obtain ⟨o, rfl, hp⟩ := hp; exact kk o h2 hp)
theorem sgX8_free_0 {X : CX} {d mc ms cells slots : Nat} {pp : Int32 → Hp → Prop} {h : Hp} {t : Nat} {x1 : Int32}  (C : CmI X mX8_free d mc ms pp) (h0 : h.K t = 9) (k0 : At X cells slots 5 [some (va_rf (some t)), some (.int x1), none] [.int x1, va_rf (h.R 804 t)] h) : At X cells slots 0 [some (va_rf (some t)), some (.int x1), none] [] h := by
  refine st_aload_n (pc := 0) C.1 (some t) dX8_free_0 rfl rfl ?_
  refine gR_RX8_39 (pc := 1) C.1 (h.R 804 t) dX8_free_1 h0 rfl ?_
  refine st_iload_n (pc := 4) C.1 dX8_free_4 rfl rfl ?_
  exact k0

theorem sgX8_free_8 {X : CX} {d mc ms cells slots : Nat} {pp : Int32 → Hp → Prop} {h : Hp} {t : Nat} {x1 : Int32} {p0 : Option Nat}  (C : CmI X mX8_free d mc ms pp)  (k0 : ∀ z0 : Nat, p0 = some z0 → At X cells slots 21 [some (va_rf (some t)), some (.int x1), some (va_rf (some z0))] [va_rf (some z0), va_rf (some t)] h) (k1 : p0 = none → At X cells slots 15 [some (va_rf (some t)), some (.int x1), some (va_rf none)] [.int x1, va_rf (some t)] h) : At X cells slots 8 [some (va_rf (some t)), some (.int x1), none] [va_rf p0] h := by
  refine sv_astore_n (pc := 8) (i := 2) C.1 [some (va_rf (some t)), some (.int x1), some (va_rf p0)] p0 dX8_free_8 rfl (Nat.le_of_ble_eq_true rfl) (by rw [C.2.1]; exact Nat.le_of_ble_eq_true rfl) rfl rfl ?_
  refine st_aload_n (pc := 9) C.1 p0 dX8_free_9 rfl rfl ?_
  refine st_ifnonnull (pc := 10) (o := p0) (tgt := 19) C.1 dX8_free_10 (by decide) (fun z0 c0 => ?_) (fun c0 => ?_)
  · try rw [c0]
    refine st_aload_n (pc := 19) C.1 (some t) dX8_free_19 rfl rfl ?_
    refine st_aload_n (pc := 20) C.1 (some z0) dX8_free_20 rfl rfl ?_
    exact (k0 z0 c0)
  · try rw [c0]
    refine st_aload_n (pc := 13) C.1 (some t) dX8_free_13 rfl rfl ?_
    refine st_iload_n (pc := 14) C.1 dX8_free_14 rfl rfl ?_
    exact (k1 c0)

theorem sgX8_free_18 {X : CX} {d mc ms cells slots : Nat} {pp : Int32 → Hp → Prop} {h : Hp} {t : Nat} {x1 : Int32} {o2 : Option Nat} {u0 : Int32}  (C : CmI X mX8_free d mc ms pp) (hc : cells ≤ mc) (hs : slots ≤ ms)  (k0 : pp u0 h) : At X cells slots 18 [some (va_rf (some t)), some (.int x1), some (va_rf o2)] [.int u0] h := by
  exact rt_i C (Or.inl rfl) dX8_free_18 hc hs ⟨_, rfl, k0⟩

theorem sgX8_free_24 {X : CX} {d mc ms cells slots : Nat} {pp : Int32 → Hp → Prop} {h : Hp} {t : Nat} {x1 : Int32} {o2 : Option Nat}  (C : CmI X mX8_free d mc ms pp) (hc : cells ≤ mc) (hs : slots ≤ ms)  (k0 : pp 0 h) : At X cells slots 24 [some (va_rf (some t)), some (.int x1), some (va_rf o2)] [] h := by
  refine st_iconst (pc := 24) (v := 0) C.1 dX8_free_24 (by decide) ?_
  exact rt_i C (Or.inl rfl) dX8_free_25 hc hs ⟨_, rfl, k0⟩

theorem clX8_free_5 {X : CX} {d0 mc0 ms0 d mc ms cells slots : Nat} {pp : Int32 → Hp → Prop} {h : Hp} {ls : List (Option Value)} {rest : List Value} {b : Nat} {a0 : Value} {post : Option Nat → Hp → Prop} (C : CmI X mX8_free d0 mc0 ms0 pp) (hct : CtR mX1_liveStartingAt d mc ms [va_rf (some b), a0] h post) (hK : h.K b = 2) (hdd : d < d0) (hmc : cells + mc ≤ mc0) (hms : slots + ms ≤ ms0) (hcat : (rest.map fun v => v.category).sum ≤ 8) (kk : ∀ o h', post o h' → At X (cells + mc) (slots + ms) 8 ls (va_rf o :: rest) h') : At X cells slots 5 ls (a0 :: va_rf (some b) :: rest) h :=
  st_callV (pc := 5) (M := mX1_liveStartingAt) (idx := 79) (As := [a0]) C.1 C.2.2.1 C.2.2.2.2.2.2 ⟨wM_RX8_79, wC_X1_liveStartingAt, wI_RX1, by decide +kernel, by decide⟩ wV_X1_liveStartingAt wS_X1_liveStartingAt (ci := 1) (n := 1) rfl rfl (by decide) dX8_free_5 rfl hdd hcat hK hct hmc hms (fun v h2 hp => by obtain ⟨o, rfl, hp⟩ := hp; exact kk o h2 hp)
theorem clX8_free_15 {X : CX} {d0 mc0 ms0 d mc ms cells slots : Nat} {pp : Int32 → Hp → Prop} {h : Hp} {ls : List (Option Value)} {rest : List Value} {b : Nat} {a0 : Value} {post : Int32 → Hp → Prop} (C : CmI X mX8_free d0 mc0 ms0 pp) (hct : CtI mX8_keepStartFault d mc ms [va_rf (some b), a0] h post) (hK : h.K b = 9) (hdd : d < d0) (hmc : cells + mc ≤ mc0) (hms : slots + ms ≤ ms0) (hcat : (rest.map fun v => v.category).sum ≤ 8) (kk : ∀ r h', post r h' → At X (cells + mc) (slots + ms) 18 ls (.int r :: rest) h') : At X cells slots 15 ls (a0 :: va_rf (some b) :: rest) h :=
  st_callV (pc := 15) (M := mX8_keepStartFault) (idx := 82) (As := [a0]) C.1 C.2.2.1 C.2.2.2.2.2.2 ⟨wM_RX8_82, wC_X8_keepStartFault, wI_RX8, by decide +kernel, by decide⟩ wV_X8_keepStartFault wS_X8_keepStartFault (ci := 8) (n := 1) rfl rfl (by decide) dX8_free_15 rfl hdd hcat hK hct hmc hms (fun v h2 hp => by obtain ⟨r, rfl, hp⟩ := hp; exact kk r h2 hp)
theorem clX8_free_21 {X : CX} {d0 mc0 ms0 d mc ms cells slots : Nat} {pp : Int32 → Hp → Prop} {h : Hp} {ls : List (Option Value)} {rest : List Value} {b : Nat} {a0 : Value} {post : Hp → Prop} (C : CmI X mX8_free d0 mc0 ms0 pp) (hct : CtV mX8_putIntoQueue d mc ms [va_rf (some b), a0] h post) (hK : h.K b = 9) (hdd : d < d0) (hmc : cells + mc ≤ mc0) (hms : slots + ms ≤ ms0) (hcat : (rest.map fun v => v.category).sum ≤ 8) (kk : ∀ h', post h' → At X (cells + mc) (slots + ms) 24 ls rest h') : At X cells slots 21 ls (a0 :: va_rf (some b) :: rest) h :=
  st_callV (pc := 21) (M := mX8_putIntoQueue) (idx := 86) (As := [a0]) C.1 C.2.2.1 C.2.2.2.2.2.2 ⟨wM_RX8_86, wC_X8_putIntoQueue, wI_RX8, by decide +kernel, by decide⟩ wV_X8_putIntoQueue wS_X8_putIntoQueue (ci := 8) (n := 1) rfl rfl (by decide) dX8_free_21 rfl hdd hcat hK hct hmc hms (fun v h2 hp => by obtain ⟨rfl, hp⟩ := hp; exact kk h2 hp)
theorem sgX8_resize_0 {X : CX} {d mc ms cells slots : Nat} {pp : Int32 → Hp → Prop} {h : Hp} {t : Nat} {x1 : Int32} {x2 : Int32}  (C : CmI X mX8_resize d mc ms pp) (hc : cells ≤ mc) (hs : slots ≤ ms) (h0 : h.K t = 9) (k0 : 1 ≤ x2 → At X cells slots 12 [some (va_rf (some t)), some (.int x1), some (.int x2), none, none] [.int x1, va_rf (h.R 804 t)] h) (k1 : ¬ 1 ≤ x2 → pp 0 h) : At X cells slots 0 [some (va_rf (some t)), some (.int x1), some (.int x2), none, none] [] h := by
  refine st_iload_n (pc := 0) C.1 dX8_resize_0 rfl rfl ?_
  refine st_iconst (pc := 1) (v := 1) C.1 dX8_resize_1 (by decide) ?_
  refine st_icmp_ge (pc := 2) (tgt := 7) C.1 dX8_resize_2 (by decide) (fun c0 => ?_) (fun c0 => ?_)
  · refine st_aload_n (pc := 7) C.1 (some t) dX8_resize_7 rfl rfl ?_
    refine gR_RX8_39 (pc := 8) C.1 (h.R 804 t) dX8_resize_8 h0 rfl ?_
    refine st_iload_n (pc := 11) C.1 dX8_resize_11 rfl rfl ?_
    exact (k0 c0)
  · refine st_iconst (pc := 5) (v := 0) C.1 dX8_resize_5 (by decide) ?_
    exact rt_i C (Or.inl rfl) dX8_resize_6 hc hs ⟨_, rfl, (k1 c0)⟩

theorem sgX8_resize_15 {X : CX} {d mc ms cells slots : Nat} {pp : Int32 → Hp → Prop} {h : Hp} {t : Nat} {x1 : Int32} {x2 : Int32} {p0 : Option Nat}  (C : CmI X mX8_resize d mc ms pp)  (k0 : ∀ z0 : Nat, p0 = some z0 → At X cells slots 29 [some (va_rf (some t)), some (.int x1), some (.int x2), some (va_rf (some z0)), none] [.int x2, va_rf (some t)] h) (k1 : p0 = none → At X cells slots 22 [some (va_rf (some t)), some (.int x1), some (.int x2), some (va_rf none), none] [.int x1, va_rf (some t)] h) : At X cells slots 15 [some (va_rf (some t)), some (.int x1), some (.int x2), none, none] [va_rf p0] h := by
  refine sv_astore_n (pc := 15) (i := 3) C.1 [some (va_rf (some t)), some (.int x1), some (.int x2), some (va_rf p0), none] p0 dX8_resize_15 rfl (Nat.le_of_ble_eq_true rfl) (by rw [C.2.1]; exact Nat.le_of_ble_eq_true rfl) rfl rfl ?_
  refine st_aload_n (pc := 16) C.1 p0 dX8_resize_16 rfl rfl ?_
  refine st_ifnonnull (pc := 17) (o := p0) (tgt := 27) C.1 dX8_resize_17 (by decide) (fun z0 c0 => ?_) (fun c0 => ?_)
  · try rw [c0]
    refine st_aload_n (pc := 27) C.1 (some t) dX8_resize_27 rfl rfl ?_
    refine st_iload_n (pc := 28) C.1 dX8_resize_28 rfl rfl ?_
    exact (k0 z0 c0)
  · try rw [c0]
    refine st_aload_n (pc := 20) C.1 (some t) dX8_resize_20 rfl rfl ?_
    refine st_iload_n (pc := 21) C.1 dX8_resize_21 rfl rfl ?_
    exact (k1 c0)

theorem sgX8_resize_25 {X : CX} {d mc ms cells slots : Nat} {pp : Int32 → Hp → Prop} {h : Hp} {t : Nat} {x1 : Int32} {x2 : Int32} {o3 : Option Nat} {u0 : Int32}  (C : CmI X mX8_resize d mc ms pp) (hc : cells ≤ mc) (hs : slots ≤ ms)  (k0 : pp (-u0) h) : At X cells slots 25 [some (va_rf (some t)), some (.int x1), some (.int x2), some (va_rf o3), none] [.int u0] h := by
  refine st_ineg (pc := 25) C.1 dX8_resize_25 ?_
  exact rt_i C (Or.inl rfl) dX8_resize_26 hc hs ⟨_, rfl, k0⟩

theorem sgX8_resize_32 {X : CX} {d mc ms cells slots : Nat} {pp : Int32 → Hp → Prop} {h : Hp} {t : Nat} {x1 : Int32} {x2 : Int32} {b3 : Nat} {p0 : Option Nat}  (C : CmI X mX8_resize d mc ms pp) (hc : cells ≤ mc) (hs : slots ≤ ms) (h0 : h.K t = 9) (h1 : h.K b3 = 1) (h2 : ∀ z0 : Nat, p0 = some z0 → h.K z0 = 1) (k0 : ∀ z0 : Nat, p0 = some z0 → At X cells slots 63 [some (va_rf (some t)), some (.int x1), some (.int x2), some (va_rf (some b3)), some (va_rf (some z0))] [.int (h.I 3 z0), .int (h.I 3 b3), .int (h.I 2 z0), .int (h.I 2 b3), va_rf (h.R 800 t)] h) (k1 : p0 = none → pp 0 h) : At X cells slots 32 [some (va_rf (some t)), some (.int x1), some (.int x2), some (va_rf (some b3)), none] [va_rf p0] h := by
  refine sv_astore (pc := 32) (i := 4) C.1 [some (va_rf (some t)), some (.int x1), some (.int x2), some (va_rf (some b3)), some (va_rf p0)] p0 dX8_resize_32 (Nat.le_of_ble_eq_true rfl) (by rw [C.2.1]; exact Nat.le_of_ble_eq_true rfl) rfl rfl ?_
  refine st_aload (pc := 34) C.1 p0 dX8_resize_34 rfl ?_
  refine st_ifnonnull (pc := 36) (o := p0) (tgt := 41) C.1 dX8_resize_36 (by decide) (fun z0 c0 => ?_) (fun c0 => ?_)
  · try rw [c0]
    refine st_aload_n (pc := 41) C.1 (some t) dX8_resize_41 rfl rfl ?_
    refine gR_RX8_18 (pc := 42) C.1 (h.R 800 t) dX8_resize_42 h0 rfl ?_
    refine st_aload_n (pc := 45) C.1 (some b3) dX8_resize_45 rfl rfl ?_
    refine gI_RX8_74 (pc := 46) C.1 (h.I 2 b3) dX8_resize_46 h1 rfl ?_
    refine st_aload (pc := 49) C.1 (some z0) dX8_resize_49 rfl ?_
    refine gI_RX8_74 (pc := 51) C.1 (h.I 2 z0) dX8_resize_51 (h2 z0 c0) rfl ?_
    refine st_aload_n (pc := 54) C.1 (some b3) dX8_resize_54 rfl rfl ?_
    refine gI_RX8_90 (pc := 55) C.1 (h.I 3 b3) dX8_resize_55 h1 rfl ?_
    refine st_aload (pc := 58) C.1 (some z0) dX8_resize_58 rfl ?_
    refine gI_RX8_90 (pc := 60) C.1 (h.I 3 z0) dX8_resize_60 (h2 z0 c0) rfl ?_
    exact (k0 z0 c0)
  · try rw [c0]
    refine st_iconst (pc := 39) (v := 0) C.1 dX8_resize_39 (by decide) ?_
    exact rt_i C (Or.inl rfl) dX8_resize_40 hc hs ⟨_, rfl, (k1 c0)⟩

theorem sgX8_resize_66 {X : CX} {d mc ms cells slots : Nat} {pp : Int32 → Hp → Prop} {h : Hp} {t : Nat} {x1 : Int32} {x2 : Int32} {o3 : Option Nat} {o4 : Option Nat} {u0 : Int32} {u1 : Int32} {u2 : Int32} {p3 : Option Nat}  (C : CmI X mX8_resize d mc ms pp)  (k0 : At X cells slots 66 [some (va_rf (some t)), some (.int x1), some (.int x2), some (va_rf o3), some (va_rf o4)] [.int u0, .int u1, .int u2, va_rf p3] h) : At X cells slots 66 [some (va_rf (some t)), some (.int x1), some (.int x2), some (va_rf o3), some (va_rf o4)] [.int u0, .int u1, .int u2, va_rf p3] h := by
  exact k0

theorem sgX8_resize_69 {X : CX} {d mc ms cells slots : Nat} {pp : Int32 → Hp → Prop} {h : Hp} {t : Nat} {x1 : Int32} {x2 : Int32} {o3 : Option Nat} {o4 : Option Nat}  (C : CmI X mX8_resize d mc ms pp)  (k0 : At X cells slots 71 [some (va_rf (some t)), some (.int x1), some (.int x2), some (va_rf o3), some (va_rf o4)] [va_rf o3, va_rf (some t)] h) : At X cells slots 69 [some (va_rf (some t)), some (.int x1), some (.int x2), some (va_rf o3), some (va_rf o4)] [] h := by
  refine st_aload_n (pc := 69) C.1 (some t) dX8_resize_69 rfl rfl ?_
  refine st_aload_n (pc := 70) C.1 o3 dX8_resize_70 rfl rfl ?_
  exact k0

theorem sgX8_resize_74 {X : CX} {d mc ms cells slots : Nat} {pp : Int32 → Hp → Prop} {h : Hp} {t : Nat} {x1 : Int32} {x2 : Int32} {o3 : Option Nat} {b4 : Nat}  (C : CmI X mX8_resize d mc ms pp) (hc : cells ≤ mc) (hs : slots ≤ ms) (h0 : h.K b4 = 1) (k0 : pp (h.I 2 b4) h) : At X cells slots 74 [some (va_rf (some t)), some (.int x1), some (.int x2), some (va_rf o3), some (va_rf (some b4))] [] h := by
  refine st_aload (pc := 74) C.1 (some b4) dX8_resize_74 rfl ?_
  refine gI_RX8_74 (pc := 76) C.1 (h.I 2 b4) dX8_resize_76 h0 rfl ?_
  exact rt_i C (Or.inl rfl) dX8_resize_79 hc hs ⟨_, rfl, k0⟩

theorem clX8_resize_12 {X : CX} {d0 mc0 ms0 d mc ms cells slots : Nat} {pp : Int32 → Hp → Prop} {h : Hp} {ls : List (Option Value)} {rest : List Value} {b : Nat} {a0 : Value} {post : Option Nat → Hp → Prop} (C : CmI X mX8_resize d0 mc0 ms0 pp) (hct : CtR mX1_liveStartingAt d mc ms [va_rf (some b), a0] h post) (hK : h.K b = 2) (hdd : d < d0) (hmc : cells + mc ≤ mc0) (hms : slots + ms ≤ ms0) (hcat : (rest.map fun v => v.category).sum ≤ 8) (kk : ∀ o h', post o h' → At X (cells + mc) (slots + ms) 15 ls (va_rf o :: rest) h') : At X cells slots 12 ls (a0 :: va_rf (some b) :: rest) h :=
  st_callV (pc := 12) (M := mX1_liveStartingAt) (idx := 79) (As := [a0]) C.1 C.2.2.1 C.2.2.2.2.2.2 ⟨wM_RX8_79, wC_X1_liveStartingAt, wI_RX1, by decide +kernel, by decide⟩ wV_X1_liveStartingAt wS_X1_liveStartingAt (ci := 1) (n := 1) rfl rfl (by decide) dX8_resize_12 rfl hdd hcat hK hct hmc hms (fun v h2 hp => by obtain ⟨o, rfl, hp⟩ := hp; exact kk o h2 hp)
theorem clX8_resize_22 {X : CX} {d0 mc0 ms0 d mc ms cells slots : Nat} {pp : Int32 → Hp → Prop} {h : Hp} {ls : List (Option Value)} {rest : List Value} {b : Nat} {a0 : Value} {post : Int32 → Hp → Prop} (C : CmI X mX8_resize d0 mc0 ms0 pp) (hct : CtI mX8_keepStartFault d mc ms [va_rf (some b), a0] h post) (hK : h.K b = 9) (hdd : d < d0) (hmc : cells + mc ≤ mc0) (hms : slots + ms ≤ ms0) (hcat : (rest.map fun v => v.category).sum ≤ 8) (kk : ∀ r h', post r h' → At X (cells + mc) (slots + ms) 25 ls (.int r :: rest) h') : At X cells slots 22 ls (a0 :: va_rf (some b) :: rest) h :=
  st_callV (pc := 22) (M := mX8_keepStartFault) (idx := 82) (As := [a0]) C.1 C.2.2.1 C.2.2.2.2.2.2 ⟨wM_RX8_82, wC_X8_keepStartFault, wI_RX8, by decide +kernel, by decide⟩ wV_X8_keepStartFault wS_X8_keepStartFault (ci := 8) (n := 1) rfl rfl (by decide) dX8_resize_22 rfl hdd hcat hK hct hmc hms (fun v h2 hp => by obtain ⟨r, rfl, hp⟩ := hp; exact kk r h2 hp)
theorem clX8_resize_29 {X : CX} {d0 mc0 ms0 d mc ms cells slots : Nat} {pp : Int32 → Hp → Prop} {h : Hp} {ls : List (Option Value)} {rest : List Value} {b : Nat} {a0 : Value} {post : Option Nat → Hp → Prop} (C : CmI X mX8_resize d0 mc0 ms0 pp) (hct : CtR mX8_give d mc ms [va_rf (some b), a0] h post) (hK : h.K b = 9) (hdd : d < d0) (hmc : cells + mc ≤ mc0) (hms : slots + ms ≤ ms0) (hcat : (rest.map fun v => v.category).sum ≤ 8) (kk : ∀ o h', post o h' → At X (cells + mc) (slots + ms) 32 ls (va_rf o :: rest) h') : At X cells slots 29 ls (a0 :: va_rf (some b) :: rest) h :=
  st_callV (pc := 29) (M := mX8_give) (idx := 70) (As := [a0]) C.1 C.2.2.1 C.2.2.2.2.2.2 ⟨wM_RX8_70, wC_X8_give, wI_RX8, by decide +kernel, by decide⟩ wV_X8_give wS_X8_give (ci := 8) (n := 1) rfl rfl (by decide) dX8_resize_29 rfl hdd hcat hK hct hmc hms (fun v h2 hp => by obtain ⟨o, rfl, hp⟩ := hp; exact kk o h2 hp)
theorem clX8_resize_63 {X : CX} {d0 mc0 ms0 d mc ms cells slots : Nat} {pp : Int32 → Hp → Prop} {h : Hp} {ls : List (Option Value)} {rest : List Value} {a0 a1 : Value} {post : Int32 → Hp → Prop} (C : CmI X mX8_resize d0 mc0 ms0 pp) (hct : CtI mJ9_min_7cf53 d mc ms [a0, a1] h post) (hdd : d < d0) (hmc : cells + mc ≤ mc0) (hms : slots + ms ≤ ms0) (hcat : (rest.map fun v => v.category).sum ≤ 8) (kk : ∀ r h', post r h' → At X (cells + mc) (slots + ms) 66 ls (.int r :: rest) h') : At X cells slots 63 ls (a1 :: a0 :: rest) h :=
  st_callS (pc := 63) (M := mJ9_min_7cf53) (idx := 93) (As := [a0, a1]) C.1 C.2.2.1 C.2.2.2.2.2.2 (n := 2) ⟨wM_RX8_93, wC_J9_min_7cf53, wI_RJ9, by decide +kernel, by decide⟩ wT_J9_min_7cf53 dX8_resize_63 rfl hdd hcat hct hmc hms (fun v h2 hp => by obtain ⟨r, rfl, hp⟩ := hp; exact kk r h2 hp)
theorem clX8_resize_66 {X : CX} {d0 mc0 ms0 d mc ms cells slots : Nat} {pp : Int32 → Hp → Prop} {h : Hp} {ls : List (Option Value)} {rest : List Value} {b : Nat} {a0 a1 a2 : Value} {post : Hp → Prop} (C : CmI X mX8_resize d0 mc0 ms0 pp) (hct : CtV mX6_move d mc ms [va_rf (some b), a0, a1, a2] h post) (hK : h.K b = 7) (hdd : d < d0) (hmc : cells + mc ≤ mc0) (hms : slots + ms ≤ ms0) (hcat : (rest.map fun v => v.category).sum ≤ 8) (kk : ∀ h', post h' → At X (cells + mc) (slots + ms) 69 ls rest h') : At X cells slots 66 ls (a2 :: a1 :: a0 :: va_rf (some b) :: rest) h :=
  st_callV (pc := 66) (M := mX6_move) (idx := 99) (As := [a0, a1, a2]) C.1 C.2.2.1 C.2.2.2.2.2.2 ⟨wM_RX8_99, wC_X6_move, wI_RX6, by decide +kernel, by decide⟩ wV_X6_move wS_X6_move (ci := 6) (n := 3) rfl rfl (by decide) dX8_resize_66 rfl hdd hcat hK hct hmc hms (fun v h2 hp => by obtain ⟨rfl, hp⟩ := hp; exact kk h2 hp)
theorem clX8_resize_71 {X : CX} {d0 mc0 ms0 d mc ms cells slots : Nat} {pp : Int32 → Hp → Prop} {h : Hp} {ls : List (Option Value)} {rest : List Value} {b : Nat} {a0 : Value} {post : Hp → Prop} (C : CmI X mX8_resize d0 mc0 ms0 pp) (hct : CtV mX8_putIntoQueue d mc ms [va_rf (some b), a0] h post) (hK : h.K b = 9) (hdd : d < d0) (hmc : cells + mc ≤ mc0) (hms : slots + ms ≤ ms0) (hcat : (rest.map fun v => v.category).sum ≤ 8) (kk : ∀ h', post h' → At X (cells + mc) (slots + ms) 74 ls rest h') : At X cells slots 71 ls (a0 :: va_rf (some b) :: rest) h :=
  st_callV (pc := 71) (M := mX8_putIntoQueue) (idx := 86) (As := [a0]) C.1 C.2.2.1 C.2.2.2.2.2.2 ⟨wM_RX8_86, wC_X8_putIntoQueue, wI_RX8, by decide +kernel, by decide⟩ wV_X8_putIntoQueue wS_X8_putIntoQueue (ci := 8) (n := 1) rfl rfl (by decide) dX8_resize_71 rfl hdd hcat hK hct hmc hms (fun v h2 hp => by obtain ⟨rfl, hp⟩ := hp; exact kk h2 hp)
theorem sgX8_load_0 {X : CX} {d mc ms cells slots : Nat} {pp : Int32 → Hp → Prop} {h : Hp} {t : Nat} {x1 : Int32}  (C : CmI X mX8_load d mc ms pp) (h0 : h.K t = 9) (k0 : At X cells slots 5 [some (va_rf (some t)), some (.int x1), none] [.int x1, va_rf (h.R 804 t)] h) : At X cells slots 0 [some (va_rf (some t)), some (.int x1), none] [] h := by
  refine st_aload_n (pc := 0) C.1 (some t) dX8_load_0 rfl rfl ?_
  refine gR_RX8_39 (pc := 1) C.1 (h.R 804 t) dX8_load_1 h0 rfl ?_
  refine st_iload_n (pc := 4) C.1 dX8_load_4 rfl rfl ?_
  exact k0

theorem sgX8_load_8 {X : CX} {d mc ms cells slots : Nat} {pp : Int32 → Hp → Prop} {h : Hp} {t : Nat} {x1 : Int32} {u0 : Int32}  (C : CmI X mX8_load d mc ms pp) (h0 : h.K t = 9) (k0 : u0 = 0 → At X cells slots 29 [some (va_rf (some t)), some (.int x1), some (.int u0)] [.int x1, va_rf (h.R 800 t)] h) (k1 : ¬ u0 = 0 → At X cells slots 19 [some (va_rf (some t)), some (.int x1), some (.int u0)] [.int x1, .int u0, va_rf (h.R 807 t)] h) : At X cells slots 8 [some (va_rf (some t)), some (.int x1), none] [.int u0] h := by
  refine sv_istore_n (pc := 8) (i := 2) C.1 [some (va_rf (some t)), some (.int x1), some (.int u0)] dX8_load_8 rfl (Nat.le_of_ble_eq_true rfl) (by rw [C.2.1]; exact Nat.le_of_ble_eq_true rfl) rfl rfl ?_
  refine st_iload_n (pc := 9) C.1 dX8_load_9 rfl rfl ?_
  refine st_if_eq (pc := 10) (tgt := 24) C.1 dX8_load_10 (by decide) (fun c0 => ?_) (fun c0 => ?_)
  · refine st_aload_n (pc := 24) C.1 (some t) dX8_load_24 rfl rfl ?_
    refine gR_RX8_18 (pc := 25) C.1 (h.R 800 t) dX8_load_25 h0 rfl ?_
    refine st_iload_n (pc := 28) C.1 dX8_load_28 rfl rfl ?_
    exact (k0 c0)
  · refine st_aload_n (pc := 13) C.1 (some t) dX8_load_13 rfl rfl ?_
    refine gR_RX8_57 (pc := 14) C.1 (h.R 807 t) dX8_load_14 h0 rfl ?_
    refine st_iload_n (pc := 17) C.1 dX8_load_17 rfl rfl ?_
    refine st_iload_n (pc := 18) C.1 dX8_load_18 rfl rfl ?_
    exact (k1 c0)

theorem sgX8_load_22 {X : CX} {d mc ms cells slots : Nat} {pp : Int32 → Hp → Prop} {h : Hp} {t : Nat} {x1 : Int32} {x2 : Int32}  (C : CmI X mX8_load d mc ms pp) (hc : cells ≤ mc) (hs : slots ≤ ms)  (k0 : pp 0 h) : At X cells slots 22 [some (va_rf (some t)), some (.int x1), some (.int x2)] [] h := by
  refine st_iconst (pc := 22) (v := 0) C.1 dX8_load_22 (by decide) ?_
  exact rt_i C (Or.inl rfl) dX8_load_23 hc hs ⟨_, rfl, k0⟩

theorem sgX8_load_32 {X : CX} {d mc ms cells slots : Nat} {pp : Int32 → Hp → Prop} {h : Hp} {t : Nat} {x1 : Int32} {x2 : Int32} {u0 : Int32}  (C : CmI X mX8_load d mc ms pp) (hc : cells ≤ mc) (hs : slots ≤ ms)  (k0 : pp u0 h) : At X cells slots 32 [some (va_rf (some t)), some (.int x1), some (.int x2)] [.int u0] h := by
  exact rt_i C (Or.inl rfl) dX8_load_32 hc hs ⟨_, rfl, k0⟩

theorem clX8_load_5 {X : CX} {d0 mc0 ms0 d mc ms cells slots : Nat} {pp : Int32 → Hp → Prop} {h : Hp} {ls : List (Option Value)} {rest : List Value} {b : Nat} {a0 : Value} {post : Int32 → Hp → Prop} (C : CmI X mX8_load d0 mc0 ms0 pp) (hct : CtI mX1_sortOf d mc ms [va_rf (some b), a0] h post) (hK : h.K b = 2) (hdd : d < d0) (hmc : cells + mc ≤ mc0) (hms : slots + ms ≤ ms0) (hcat : (rest.map fun v => v.category).sum ≤ 8) (kk : ∀ r h', post r h' → At X (cells + mc) (slots + ms) 8 ls (.int r :: rest) h') : At X cells slots 5 ls (a0 :: va_rf (some b) :: rest) h :=
  st_callV (pc := 5) (M := mX1_sortOf) (idx := 103) (As := [a0]) C.1 C.2.2.1 C.2.2.2.2.2.2 ⟨wM_RX8_103, wC_X1_sortOf, wI_RX1, by decide +kernel, by decide⟩ wV_X1_sortOf wS_X1_sortOf (ci := 1) (n := 1) rfl rfl (by decide) dX8_load_5 rfl hdd hcat hK hct hmc hms (fun v h2 hp => by obtain ⟨r, rfl, hp⟩ := hp; exact kk r h2 hp)
theorem clX8_load_19 {X : CX} {d0 mc0 ms0 d mc ms cells slots : Nat} {pp : Int32 → Hp → Prop} {h : Hp} {ls : List (Option Value)} {rest : List Value} {b : Nat} {a0 a1 : Value} {post : Hp → Prop} (C : CmI X mX8_load d0 mc0 ms0 pp) (hct : CtV mX4_keep d mc ms [va_rf (some b), a0, a1] h post) (hK : h.K b = 5) (hdd : d < d0) (hmc : cells + mc ≤ mc0) (hms : slots + ms ≤ ms0) (hcat : (rest.map fun v => v.category).sum ≤ 8) (kk : ∀ h', post h' → At X (cells + mc) (slots + ms) 22 ls rest h') : At X cells slots 19 ls (a1 :: a0 :: va_rf (some b) :: rest) h :=
  st_callV (pc := 19) (M := mX4_keep) (idx := 106) (As := [a0, a1]) C.1 C.2.2.1 C.2.2.2.2.2.2 ⟨wM_RX8_106, wC_X4_keep, wI_RX4, by decide +kernel, by decide⟩ wV_X4_keep wS_X4_keep (ci := 4) (n := 2) rfl rfl (by decide) dX8_load_19 rfl hdd hcat hK hct hmc hms (fun v h2 hp => by obtain ⟨rfl, hp⟩ := hp; exact kk h2 hp)
theorem clX8_load_29 {X : CX} {d0 mc0 ms0 d mc ms cells slots : Nat} {pp : Int32 → Hp → Prop} {h : Hp} {ls : List (Option Value)} {rest : List Value} {b : Nat} {a0 : Value} {post : Int32 → Hp → Prop} (C : CmI X mX8_load d0 mc0 ms0 pp) (hct : CtI mX6_read d mc ms [va_rf (some b), a0] h post) (hK : h.K b = 7) (hdd : d < d0) (hmc : cells + mc ≤ mc0) (hms : slots + ms ≤ ms0) (hcat : (rest.map fun v => v.category).sum ≤ 8) (kk : ∀ r h', post r h' → At X (cells + mc) (slots + ms) 32 ls (.int r :: rest) h') : At X cells slots 29 ls (a0 :: va_rf (some b) :: rest) h :=
  st_callV (pc := 29) (M := mX6_read) (idx := 110) (As := [a0]) C.1 C.2.2.1 C.2.2.2.2.2.2 ⟨wM_RX8_110, wC_X6_read, wI_RX6, by decide +kernel, by decide⟩ wV_X6_read wS_X6_read (ci := 6) (n := 1) rfl rfl (by decide) dX8_load_29 rfl hdd hcat hK hct hmc hms (fun v h2 hp => by obtain ⟨r, rfl, hp⟩ := hp; exact kk r h2 hp)
theorem sgX8_store_0 {X : CX} {d mc ms cells slots : Nat} {pp : Int32 → Hp → Prop} {h : Hp} {t : Nat} {x1 : Int32} {x2 : Int32}  (C : CmI X mX8_store d mc ms pp) (h0 : h.K t = 9) (k0 : At X cells slots 5 [some (va_rf (some t)), some (.int x1), some (.int x2), none] [.int x1, va_rf (h.R 804 t)] h) : At X cells slots 0 [some (va_rf (some t)), some (.int x1), some (.int x2), none] [] h := by
  refine st_aload_n (pc := 0) C.1 (some t) dX8_store_0 rfl rfl ?_
  refine gR_RX8_39 (pc := 1) C.1 (h.R 804 t) dX8_store_1 h0 rfl ?_
  refine st_iload_n (pc := 4) C.1 dX8_store_4 rfl rfl ?_
  exact k0

theorem sgX8_store_8 {X : CX} {d mc ms cells slots : Nat} {pp : Int32 → Hp → Prop} {h : Hp} {t : Nat} {x1 : Int32} {x2 : Int32} {u0 : Int32}  (C : CmI X mX8_store d mc ms pp) (h0 : h.K t = 9) (k0 : u0 = 0 → At X cells slots 30 [some (va_rf (some t)), some (.int x1), some (.int x2), some (.int u0)] [.int x2, .int x1, va_rf (h.R 800 t)] h) (k1 : ¬ u0 = 0 → At X cells slots 19 [some (va_rf (some t)), some (.int x1), some (.int x2), some (.int u0)] [.int x1, .int u0, va_rf (h.R 807 t)] h) : At X cells slots 8 [some (va_rf (some t)), some (.int x1), some (.int x2), none] [.int u0] h := by
  refine sv_istore_n (pc := 8) (i := 3) C.1 [some (va_rf (some t)), some (.int x1), some (.int x2), some (.int u0)] dX8_store_8 rfl (Nat.le_of_ble_eq_true rfl) (by rw [C.2.1]; exact Nat.le_of_ble_eq_true rfl) rfl rfl ?_
  refine st_iload_n (pc := 9) C.1 dX8_store_9 rfl rfl ?_
  refine st_if_eq (pc := 10) (tgt := 24) C.1 dX8_store_10 (by decide) (fun c0 => ?_) (fun c0 => ?_)
  · refine st_aload_n (pc := 24) C.1 (some t) dX8_store_24 rfl rfl ?_
    refine gR_RX8_18 (pc := 25) C.1 (h.R 800 t) dX8_store_25 h0 rfl ?_
    refine st_iload_n (pc := 28) C.1 dX8_store_28 rfl rfl ?_
    refine st_iload_n (pc := 29) C.1 dX8_store_29 rfl rfl ?_
    exact (k0 c0)
  · refine st_aload_n (pc := 13) C.1 (some t) dX8_store_13 rfl rfl ?_
    refine gR_RX8_57 (pc := 14) C.1 (h.R 807 t) dX8_store_14 h0 rfl ?_
    refine st_iload_n (pc := 17) C.1 dX8_store_17 rfl rfl ?_
    refine st_iload_n (pc := 18) C.1 dX8_store_18 rfl rfl ?_
    exact (k1 c0)

theorem sgX8_store_22 {X : CX} {d mc ms cells slots : Nat} {pp : Int32 → Hp → Prop} {h : Hp} {t : Nat} {x1 : Int32} {x2 : Int32} {x3 : Int32}  (C : CmI X mX8_store d mc ms pp) (hc : cells ≤ mc) (hs : slots ≤ ms)  (k0 : pp x3 h) : At X cells slots 22 [some (va_rf (some t)), some (.int x1), some (.int x2), some (.int x3)] [] h := by
  refine st_iload_n (pc := 22) C.1 dX8_store_22 rfl rfl ?_
  exact rt_i C (Or.inl rfl) dX8_store_23 hc hs ⟨_, rfl, k0⟩

theorem sgX8_store_33 {X : CX} {d mc ms cells slots : Nat} {pp : Int32 → Hp → Prop} {h : Hp} {t : Nat} {x1 : Int32} {x2 : Int32} {x3 : Int32}  (C : CmI X mX8_store d mc ms pp) (hc : cells ≤ mc) (hs : slots ≤ ms)  (k0 : pp 0 h) : At X cells slots 33 [some (va_rf (some t)), some (.int x1), some (.int x2), some (.int x3)] [] h := by
  refine st_iconst (pc := 33) (v := 0) C.1 dX8_store_33 (by decide) ?_
  exact rt_i C (Or.inl rfl) dX8_store_34 hc hs ⟨_, rfl, k0⟩

theorem clX8_store_5 {X : CX} {d0 mc0 ms0 d mc ms cells slots : Nat} {pp : Int32 → Hp → Prop} {h : Hp} {ls : List (Option Value)} {rest : List Value} {b : Nat} {a0 : Value} {post : Int32 → Hp → Prop} (C : CmI X mX8_store d0 mc0 ms0 pp) (hct : CtI mX1_sortOf d mc ms [va_rf (some b), a0] h post) (hK : h.K b = 2) (hdd : d < d0) (hmc : cells + mc ≤ mc0) (hms : slots + ms ≤ ms0) (hcat : (rest.map fun v => v.category).sum ≤ 8) (kk : ∀ r h', post r h' → At X (cells + mc) (slots + ms) 8 ls (.int r :: rest) h') : At X cells slots 5 ls (a0 :: va_rf (some b) :: rest) h :=
  st_callV (pc := 5) (M := mX1_sortOf) (idx := 103) (As := [a0]) C.1 C.2.2.1 C.2.2.2.2.2.2 ⟨wM_RX8_103, wC_X1_sortOf, wI_RX1, by decide +kernel, by decide⟩ wV_X1_sortOf wS_X1_sortOf (ci := 1) (n := 1) rfl rfl (by decide) dX8_store_5 rfl hdd hcat hK hct hmc hms (fun v h2 hp => by obtain ⟨r, rfl, hp⟩ := hp; exact kk r h2 hp)
theorem clX8_store_19 {X : CX} {d0 mc0 ms0 d mc ms cells slots : Nat} {pp : Int32 → Hp → Prop} {h : Hp} {ls : List (Option Value)} {rest : List Value} {b : Nat} {a0 a1 : Value} {post : Hp → Prop} (C : CmI X mX8_store d0 mc0 ms0 pp) (hct : CtV mX4_keep d mc ms [va_rf (some b), a0, a1] h post) (hK : h.K b = 5) (hdd : d < d0) (hmc : cells + mc ≤ mc0) (hms : slots + ms ≤ ms0) (hcat : (rest.map fun v => v.category).sum ≤ 8) (kk : ∀ h', post h' → At X (cells + mc) (slots + ms) 22 ls rest h') : At X cells slots 19 ls (a1 :: a0 :: va_rf (some b) :: rest) h :=
  st_callV (pc := 19) (M := mX4_keep) (idx := 106) (As := [a0, a1]) C.1 C.2.2.1 C.2.2.2.2.2.2 ⟨wM_RX8_106, wC_X4_keep, wI_RX4, by decide +kernel, by decide⟩ wV_X4_keep wS_X4_keep (ci := 4) (n := 2) rfl rfl (by decide) dX8_store_19 rfl hdd hcat hK hct hmc hms (fun v h2 hp => by obtain ⟨rfl, hp⟩ := hp; exact kk h2 hp)
theorem clX8_store_30 {X : CX} {d0 mc0 ms0 d mc ms cells slots : Nat} {pp : Int32 → Hp → Prop} {h : Hp} {ls : List (Option Value)} {rest : List Value} {b : Nat} {a0 a1 : Value} {post : Hp → Prop} (C : CmI X mX8_store d0 mc0 ms0 pp) (hct : CtV mX6_write d mc ms [va_rf (some b), a0, a1] h post) (hK : h.K b = 7) (hdd : d < d0) (hmc : cells + mc ≤ mc0) (hms : slots + ms ≤ ms0) (hcat : (rest.map fun v => v.category).sum ≤ 8) (kk : ∀ h', post h' → At X (cells + mc) (slots + ms) 33 ls rest h') : At X cells slots 30 ls (a1 :: a0 :: va_rf (some b) :: rest) h :=
  st_callV (pc := 30) (M := mX6_write) (idx := 113) (As := [a0, a1]) C.1 C.2.2.1 C.2.2.2.2.2.2 ⟨wM_RX8_113, wC_X6_write, wI_RX6, by decide +kernel, by decide⟩ wV_X6_write wS_X6_write (ci := 6) (n := 2) rfl rfl (by decide) dX8_store_30 rfl hdd hcat hK hct hmc hms (fun v h2 hp => by obtain ⟨rfl, hp⟩ := hp; exact kk h2 hp)
theorem sgX8_check_0 {X : CX} {d mc ms cells slots : Nat} {pp : Int32 → Hp → Prop} {h : Hp} {t : Nat} {x1 : Int32}  (C : CmI X mX8_check d mc ms pp) (h0 : h.K t = 9) (k0 : At X cells slots 5 [some (va_rf (some t)), some (.int x1)] [.int x1, va_rf (h.R 804 t)] h) : At X cells slots 0 [some (va_rf (some t)), some (.int x1)] [] h := by
  refine st_aload_n (pc := 0) C.1 (some t) dX8_check_0 rfl rfl ?_
  refine gR_RX8_39 (pc := 1) C.1 (h.R 804 t) dX8_check_1 h0 rfl ?_
  refine st_iload_n (pc := 4) C.1 dX8_check_4 rfl rfl ?_
  exact k0

theorem sgX8_check_8 {X : CX} {d mc ms cells slots : Nat} {pp : Int32 → Hp → Prop} {h : Hp} {t : Nat} {x1 : Int32} {u0 : Int32}  (C : CmI X mX8_check d mc ms pp) (hc : cells ≤ mc) (hs : slots ≤ ms)  (k0 : pp u0 h) : At X cells slots 8 [some (va_rf (some t)), some (.int x1)] [.int u0] h := by
  exact rt_i C (Or.inl rfl) dX8_check_8 hc hs ⟨_, rfl, k0⟩

theorem clX8_check_5 {X : CX} {d0 mc0 ms0 d mc ms cells slots : Nat} {pp : Int32 → Hp → Prop} {h : Hp} {ls : List (Option Value)} {rest : List Value} {b : Nat} {a0 : Value} {post : Int32 → Hp → Prop} (C : CmI X mX8_check d0 mc0 ms0 pp) (hct : CtI mX1_sortOf d mc ms [va_rf (some b), a0] h post) (hK : h.K b = 2) (hdd : d < d0) (hmc : cells + mc ≤ mc0) (hms : slots + ms ≤ ms0) (hcat : (rest.map fun v => v.category).sum ≤ 8) (kk : ∀ r h', post r h' → At X (cells + mc) (slots + ms) 8 ls (.int r :: rest) h') : At X cells slots 5 ls (a0 :: va_rf (some b) :: rest) h :=
  st_callV (pc := 5) (M := mX1_sortOf) (idx := 103) (As := [a0]) C.1 C.2.2.1 C.2.2.2.2.2.2 ⟨wM_RX8_103, wC_X1_sortOf, wI_RX1, by decide +kernel, by decide⟩ wV_X1_sortOf wS_X1_sortOf (ci := 1) (n := 1) rfl rfl (by decide) dX8_check_5 rfl hdd hcat hK hct hmc hms (fun v h2 hp => by obtain ⟨r, rfl, hp⟩ := hp; exact kk r h2 hp)
theorem sgX8_copy_0 {X : CX} {d mc ms cells slots : Nat} {pp : Int32 → Hp → Prop} {h : Hp} {t : Nat} {x1 : Int32} {x2 : Int32} {x3 : Int32}  (C : CmI X mX8_copy d mc ms pp) (hc : cells ≤ mc) (hs : slots ≤ ms) (h0 : h.K t = 9) (k0 : x3 < 0 → pp (-1) h) (k1 : ¬ x3 < 0 → x3 ≤ 3000 → At X cells slots 19 [some (va_rf (some t)), some (.int x1), some (.int x2), some (.int x3), none, none] [.int x3, .int x1, va_rf (h.R 804 t)] h) (k2 : ¬ x3 < 0 → ¬ x3 ≤ 3000 → pp (-1) h) : At X cells slots 0 [some (va_rf (some t)), some (.int x1), some (.int x2), some (.int x3), none, none] [] h := by
  refine st_iload_n (pc := 0) C.1 dX8_copy_0 rfl rfl ?_
  refine st_if_lt (pc := 1) (tgt := 11) C.1 dX8_copy_1 (by decide) (fun c0 => ?_) (fun c0 => ?_)
  · refine st_iconst (pc := 11) (v := (-1)) C.1 dX8_copy_11 (by decide) ?_
    exact rt_i C (Or.inl rfl) dX8_copy_12 hc hs ⟨_, rfl, (k0 c0)⟩
  · refine st_iload_n (pc := 4) C.1 dX8_copy_4 rfl rfl ?_
    refine st_sipush (pc := 5) (v := 3000) C.1 dX8_copy_5 (by decide) ?_
    refine st_icmp_le (pc := 8) (tgt := 13) C.1 dX8_copy_8 (by decide) (fun c1 => ?_) (fun c1 => ?_)
    · refine st_aload_n (pc := 13) C.1 (some t) dX8_copy_13 rfl rfl ?_
      refine gR_RX8_39 (pc := 14) C.1 (h.R 804 t) dX8_copy_14 h0 rfl ?_
      refine st_iload_n (pc := 17) C.1 dX8_copy_17 rfl rfl ?_
      refine st_iload_n (pc := 18) C.1 dX8_copy_18 rfl rfl ?_
      exact (k1 c0 c1)
    · refine st_iconst (pc := 11) (v := (-1)) C.1 dX8_copy_11 (by decide) ?_
      exact rt_i C (Or.inl rfl) dX8_copy_12 hc hs ⟨_, rfl, (k2 c0 c1)⟩

theorem sgX8_copy_22 {X : CX} {d mc ms cells slots : Nat} {pp : Int32 → Hp → Prop} {h : Hp} {t : Nat} {x1 : Int32} {x2 : Int32} {x3 : Int32} {u0 : Int32}  (C : CmI X mX8_copy d mc ms pp) (h0 : h.K t = 9) (k0 : x3 ≤ u0 → At X cells slots 47 [some (va_rf (some t)), some (.int x1), some (.int x2), some (.int x3), some (.int u0), none] [.int x3, .int x2, va_rf (h.R 804 t)] h) (k1 : ¬ x3 ≤ u0 → At X cells slots 37 [some (va_rf (some t)), some (.int x1), some (.int x2), some (.int x3), some (.int u0), none] [.int u0, .int (x1 + u0), va_rf (some t)] h) : At X cells slots 22 [some (va_rf (some t)), some (.int x1), some (.int x2), some (.int x3), none, none] [.int u0] h := by
  refine sv_istore (pc := 22) (i := 4) C.1 [some (va_rf (some t)), some (.int x1), some (.int x2), some (.int x3), some (.int u0), none] dX8_copy_22 (Nat.le_of_ble_eq_true rfl) (by rw [C.2.1]; exact Nat.le_of_ble_eq_true rfl) rfl rfl ?_
  refine st_iload (pc := 24) C.1 dX8_copy_24 rfl ?_
  refine st_iload_n (pc := 26) C.1 dX8_copy_26 rfl rfl ?_
  refine st_icmp_ge (pc := 27) (tgt := 41) C.1 dX8_copy_27 (by decide) (fun c0 => ?_) (fun c0 => ?_)
  · refine st_aload_n (pc := 41) C.1 (some t) dX8_copy_41 rfl rfl ?_
    refine gR_RX8_39 (pc := 42) C.1 (h.R 804 t) dX8_copy_42 h0 rfl ?_
    refine st_iload_n (pc := 45) C.1 dX8_copy_45 rfl rfl ?_
    refine st_iload_n (pc := 46) C.1 dX8_copy_46 rfl rfl ?_
    exact (k0 c0)
  · refine st_aload_n (pc := 30) C.1 (some t) dX8_copy_30 rfl rfl ?_
    refine st_iload_n (pc := 31) C.1 dX8_copy_31 rfl rfl ?_
    refine st_iload (pc := 32) C.1 dX8_copy_32 rfl ?_
    refine st_iadd (pc := 34) C.1 dX8_copy_34 ?_
    refine st_iload (pc := 35) C.1 dX8_copy_35 rfl ?_
    exact (k1 c0)

theorem sgX8_copy_40 {X : CX} {d mc ms cells slots : Nat} {pp : Int32 → Hp → Prop} {h : Hp} {t : Nat} {x1 : Int32} {x2 : Int32} {x3 : Int32} {x4 : Int32} {u0 : Int32}  (C : CmI X mX8_copy d mc ms pp) (hc : cells ≤ mc) (hs : slots ≤ ms)  (k0 : pp u0 h) : At X cells slots 40 [some (va_rf (some t)), some (.int x1), some (.int x2), some (.int x3), some (.int x4), none] [.int u0] h := by
  exact rt_i C (Or.inl rfl) dX8_copy_40 hc hs ⟨_, rfl, k0⟩

theorem sgX8_copy_50 {X : CX} {d mc ms cells slots : Nat} {pp : Int32 → Hp → Prop} {h : Hp} {t : Nat} {x1 : Int32} {x2 : Int32} {x3 : Int32} {x4 : Int32} {u0 : Int32}  (C : CmI X mX8_copy d mc ms pp) (h0 : h.K t = 9) (k0 : x3 ≤ u0 → At X cells slots 78 [some (va_rf (some t)), some (.int x1), some (.int x2), some (.int x3), some (.int x4), some (.int u0)] [.int x3, .int x2, .int x1, va_rf (h.R 800 t)] h) (k1 : ¬ x3 ≤ u0 → At X cells slots 67 [some (va_rf (some t)), some (.int x1), some (.int x2), some (.int x3), some (.int x4), some (.int u0)] [.int (x3 + u0), .int (x2 + u0), va_rf (some t)] h) : At X cells slots 50 [some (va_rf (some t)), some (.int x1), some (.int x2), some (.int x3), some (.int x4), none] [.int u0] h := by
  refine sv_istore (pc := 50) (i := 5) C.1 [some (va_rf (some t)), some (.int x1), some (.int x2), some (.int x3), some (.int x4), some (.int u0)] dX8_copy_50 (Nat.le_of_ble_eq_true rfl) (by rw [C.2.1]; exact Nat.le_of_ble_eq_true rfl) rfl rfl ?_
  refine st_iload (pc := 52) C.1 dX8_copy_52 rfl ?_
  refine st_iload_n (pc := 54) C.1 dX8_copy_54 rfl rfl ?_
  refine st_icmp_ge (pc := 55) (tgt := 71) C.1 dX8_copy_55 (by decide) (fun c0 => ?_) (fun c0 => ?_)
  · refine st_aload_n (pc := 71) C.1 (some t) dX8_copy_71 rfl rfl ?_
    refine gR_RX8_18 (pc := 72) C.1 (h.R 800 t) dX8_copy_72 h0 rfl ?_
    refine st_iload_n (pc := 75) C.1 dX8_copy_75 rfl rfl ?_
    refine st_iload_n (pc := 76) C.1 dX8_copy_76 rfl rfl ?_
    refine st_iload_n (pc := 77) C.1 dX8_copy_77 rfl rfl ?_
    exact (k0 c0)
  · refine st_aload_n (pc := 58) C.1 (some t) dX8_copy_58 rfl rfl ?_
    refine st_iload_n (pc := 59) C.1 dX8_copy_59 rfl rfl ?_
    refine st_iload (pc := 60) C.1 dX8_copy_60 rfl ?_
    refine st_iadd (pc := 62) C.1 dX8_copy_62 ?_
    refine st_iload_n (pc := 63) C.1 dX8_copy_63 rfl rfl ?_
    refine st_iload (pc := 64) C.1 dX8_copy_64 rfl ?_
    refine st_iadd (pc := 66) C.1 dX8_copy_66 ?_
    exact (k1 c0)

theorem sgX8_copy_70 {X : CX} {d mc ms cells slots : Nat} {pp : Int32 → Hp → Prop} {h : Hp} {t : Nat} {x1 : Int32} {x2 : Int32} {x3 : Int32} {x4 : Int32} {x5 : Int32} {u0 : Int32}  (C : CmI X mX8_copy d mc ms pp) (hc : cells ≤ mc) (hs : slots ≤ ms)  (k0 : pp u0 h) : At X cells slots 70 [some (va_rf (some t)), some (.int x1), some (.int x2), some (.int x3), some (.int x4), some (.int x5)] [.int u0] h := by
  exact rt_i C (Or.inl rfl) dX8_copy_70 hc hs ⟨_, rfl, k0⟩

theorem sgX8_copy_81 {X : CX} {d mc ms cells slots : Nat} {pp : Int32 → Hp → Prop} {h : Hp} {t : Nat} {x1 : Int32} {x2 : Int32} {x3 : Int32} {x4 : Int32} {x5 : Int32}  (C : CmI X mX8_copy d mc ms pp) (hc : cells ≤ mc) (hs : slots ≤ ms)  (k0 : pp x3 h) : At X cells slots 81 [some (va_rf (some t)), some (.int x1), some (.int x2), some (.int x3), some (.int x4), some (.int x5)] [] h := by
  refine st_iload_n (pc := 81) C.1 dX8_copy_81 rfl rfl ?_
  exact rt_i C (Or.inl rfl) dX8_copy_82 hc hs ⟨_, rfl, k0⟩

theorem clX8_copy_19 {X : CX} {d0 mc0 ms0 d mc ms cells slots : Nat} {pp : Int32 → Hp → Prop} {h : Hp} {ls : List (Option Value)} {rest : List Value} {b : Nat} {a0 a1 : Value} {post : Int32 → Hp → Prop} (C : CmI X mX8_copy d0 mc0 ms0 pp) (hct : CtI mX1_ownWordsFrom d mc ms [va_rf (some b), a0, a1] h post) (hK : h.K b = 2) (hdd : d < d0) (hmc : cells + mc ≤ mc0) (hms : slots + ms ≤ ms0) (hcat : (rest.map fun v => v.category).sum ≤ 8) (kk : ∀ r h', post r h' → At X (cells + mc) (slots + ms) 22 ls (.int r :: rest) h') : At X cells slots 19 ls (a1 :: a0 :: va_rf (some b) :: rest) h :=
  st_callV (pc := 19) (M := mX1_ownWordsFrom) (idx := 116) (As := [a0, a1]) C.1 C.2.2.1 C.2.2.2.2.2.2 ⟨wM_RX8_116, wC_X1_ownWordsFrom, wI_RX1, by decide +kernel, by decide⟩ wV_X1_ownWordsFrom wS_X1_ownWordsFrom (ci := 1) (n := 2) rfl rfl (by decide) dX8_copy_19 rfl hdd hcat hK hct hmc hms (fun v h2 hp => by obtain ⟨r, rfl, hp⟩ := hp; exact kk r h2 hp)
theorem clX8_copy_37 {X : CX} {d0 mc0 ms0 d mc ms cells slots : Nat} {pp : Int32 → Hp → Prop} {h : Hp} {ls : List (Option Value)} {rest : List Value} {b : Nat} {a0 a1 : Value} {post : Int32 → Hp → Prop} (C : CmI X mX8_copy d0 mc0 ms0 pp) (hct : CtI mX8_keepCopyFault d mc ms [va_rf (some b), a0, a1] h post) (hK : h.K b = 9) (hdd : d < d0) (hmc : cells + mc ≤ mc0) (hms : slots + ms ≤ ms0) (hcat : (rest.map fun v => v.category).sum ≤ 8) (kk : ∀ r h', post r h' → At X (cells + mc) (slots + ms) 40 ls (.int r :: rest) h') : At X cells slots 37 ls (a1 :: a0 :: va_rf (some b) :: rest) h :=
  st_callV (pc := 37) (M := mX8_keepCopyFault) (idx := 119) (As := [a0, a1]) C.1 C.2.2.1 C.2.2.2.2.2.2 ⟨wM_RX8_119, wC_X8_keepCopyFault, wI_RX8, by decide +kernel, by decide⟩ wV_X8_keepCopyFault wS_X8_keepCopyFault (ci := 8) (n := 2) rfl rfl (by decide) dX8_copy_37 rfl hdd hcat hK hct hmc hms (fun v h2 hp => by obtain ⟨r, rfl, hp⟩ := hp; exact kk r h2 hp)
theorem clX8_copy_47 {X : CX} {d0 mc0 ms0 d mc ms cells slots : Nat} {pp : Int32 → Hp → Prop} {h : Hp} {ls : List (Option Value)} {rest : List Value} {b : Nat} {a0 a1 : Value} {post : Int32 → Hp → Prop} (C : CmI X mX8_copy d0 mc0 ms0 pp) (hct : CtI mX1_ownWordsFrom d mc ms [va_rf (some b), a0, a1] h post) (hK : h.K b = 2) (hdd : d < d0) (hmc : cells + mc ≤ mc0) (hms : slots + ms ≤ ms0) (hcat : (rest.map fun v => v.category).sum ≤ 8) (kk : ∀ r h', post r h' → At X (cells + mc) (slots + ms) 50 ls (.int r :: rest) h') : At X cells slots 47 ls (a1 :: a0 :: va_rf (some b) :: rest) h :=
  st_callV (pc := 47) (M := mX1_ownWordsFrom) (idx := 116) (As := [a0, a1]) C.1 C.2.2.1 C.2.2.2.2.2.2 ⟨wM_RX8_116, wC_X1_ownWordsFrom, wI_RX1, by decide +kernel, by decide⟩ wV_X1_ownWordsFrom wS_X1_ownWordsFrom (ci := 1) (n := 2) rfl rfl (by decide) dX8_copy_47 rfl hdd hcat hK hct hmc hms (fun v h2 hp => by obtain ⟨r, rfl, hp⟩ := hp; exact kk r h2 hp)
theorem clX8_copy_67 {X : CX} {d0 mc0 ms0 d mc ms cells slots : Nat} {pp : Int32 → Hp → Prop} {h : Hp} {ls : List (Option Value)} {rest : List Value} {b : Nat} {a0 a1 : Value} {post : Int32 → Hp → Prop} (C : CmI X mX8_copy d0 mc0 ms0 pp) (hct : CtI mX8_keepCopyFault d mc ms [va_rf (some b), a0, a1] h post) (hK : h.K b = 9) (hdd : d < d0) (hmc : cells + mc ≤ mc0) (hms : slots + ms ≤ ms0) (hcat : (rest.map fun v => v.category).sum ≤ 8) (kk : ∀ r h', post r h' → At X (cells + mc) (slots + ms) 70 ls (.int r :: rest) h') : At X cells slots 67 ls (a1 :: a0 :: va_rf (some b) :: rest) h :=
  st_callV (pc := 67) (M := mX8_keepCopyFault) (idx := 119) (As := [a0, a1]) C.1 C.2.2.1 C.2.2.2.2.2.2 ⟨wM_RX8_119, wC_X8_keepCopyFault, wI_RX8, by decide +kernel, by decide⟩ wV_X8_keepCopyFault wS_X8_keepCopyFault (ci := 8) (n := 2) rfl rfl (by decide) dX8_copy_67 rfl hdd hcat hK hct hmc hms (fun v h2 hp => by obtain ⟨r, rfl, hp⟩ := hp; exact kk r h2 hp)
theorem clX8_copy_78 {X : CX} {d0 mc0 ms0 d mc ms cells slots : Nat} {pp : Int32 → Hp → Prop} {h : Hp} {ls : List (Option Value)} {rest : List Value} {b : Nat} {a0 a1 a2 : Value} {post : Hp → Prop} (C : CmI X mX8_copy d0 mc0 ms0 pp) (hct : CtV mX6_move d mc ms [va_rf (some b), a0, a1, a2] h post) (hK : h.K b = 7) (hdd : d < d0) (hmc : cells + mc ≤ mc0) (hms : slots + ms ≤ ms0) (hcat : (rest.map fun v => v.category).sum ≤ 8) (kk : ∀ h', post h' → At X (cells + mc) (slots + ms) 81 ls rest h') : At X cells slots 78 ls (a2 :: a1 :: a0 :: va_rf (some b) :: rest) h :=
  st_callV (pc := 78) (M := mX6_move) (idx := 99) (As := [a0, a1, a2]) C.1 C.2.2.1 C.2.2.2.2.2.2 ⟨wM_RX8_99, wC_X6_move, wI_RX6, by decide +kernel, by decide⟩ wV_X6_move wS_X6_move (ci := 6) (n := 3) rfl rfl (by decide) dX8_copy_78 rfl hdd hcat hK hct hmc hms (fun v h2 hp => by obtain ⟨rfl, hp⟩ := hp; exact kk h2 hp)
theorem sgX8_sizeOf_0 {X : CX} {d mc ms cells slots : Nat} {pp : Int32 → Hp → Prop} {h : Hp} {t : Nat} {x1 : Int32}  (C : CmI X mX8_sizeOf d mc ms pp) (h0 : h.K t = 9) (k0 : At X cells slots 5 [some (va_rf (some t)), some (.int x1), none] [.int x1, va_rf (h.R 804 t)] h) : At X cells slots 0 [some (va_rf (some t)), some (.int x1), none] [] h := by
  refine st_aload_n (pc := 0) C.1 (some t) dX8_sizeOf_0 rfl rfl ?_
  refine gR_RX8_39 (pc := 1) C.1 (h.R 804 t) dX8_sizeOf_1 h0 rfl ?_
  refine st_iload_n (pc := 4) C.1 dX8_sizeOf_4 rfl rfl ?_
  exact k0

theorem sgX8_sizeOf_8 {X : CX} {d mc ms cells slots : Nat} {pp : Int32 → Hp → Prop} {h : Hp} {t : Nat} {x1 : Int32} {p0 : Option Nat}  (C : CmI X mX8_sizeOf d mc ms pp) (hc : cells ≤ mc) (hs : slots ≤ ms) (h0 : ∀ z0 : Nat, p0 = some z0 → h.K z0 = 1) (k0 : ∀ z0 : Nat, p0 = some z0 → pp (h.I 3 z0) h) (k1 : p0 = none → pp (-1) h) : At X cells slots 8 [some (va_rf (some t)), some (.int x1), none] [va_rf p0] h := by
  refine sv_astore_n (pc := 8) (i := 2) C.1 [some (va_rf (some t)), some (.int x1), some (va_rf p0)] p0 dX8_sizeOf_8 rfl (Nat.le_of_ble_eq_true rfl) (by rw [C.2.1]; exact Nat.le_of_ble_eq_true rfl) rfl rfl ?_
  refine st_aload_n (pc := 9) C.1 p0 dX8_sizeOf_9 rfl rfl ?_
  refine st_ifnonnull (pc := 10) (o := p0) (tgt := 17) C.1 dX8_sizeOf_10 (by decide) (fun z0 c0 => ?_) (fun c0 => ?_)
  · try rw [c0]
    refine st_aload_n (pc := 17) C.1 (some z0) dX8_sizeOf_17 rfl rfl ?_
    refine gI_RX8_90 (pc := 18) C.1 (h.I 3 z0) dX8_sizeOf_18 (h0 z0 c0) rfl ?_
    exact rt_i C (Or.inl rfl) dX8_sizeOf_21 hc hs ⟨_, rfl, (k0 z0 c0)⟩
  · try rw [c0]
    refine st_iconst (pc := 13) (v := (-1)) C.1 dX8_sizeOf_13 (by decide) ?_
    refine st_goto (pc := 14) (tgt := 21) C.1 dX8_sizeOf_14 (by decide) ?_
    exact rt_i C (Or.inl rfl) dX8_sizeOf_21 hc hs ⟨_, rfl, (k1 c0)⟩

theorem clX8_sizeOf_5 {X : CX} {d0 mc0 ms0 d mc ms cells slots : Nat} {pp : Int32 → Hp → Prop} {h : Hp} {ls : List (Option Value)} {rest : List Value} {b : Nat} {a0 : Value} {post : Option Nat → Hp → Prop} (C : CmI X mX8_sizeOf d0 mc0 ms0 pp) (hct : CtR mX1_liveStartingAt d mc ms [va_rf (some b), a0] h post) (hK : h.K b = 2) (hdd : d < d0) (hmc : cells + mc ≤ mc0) (hms : slots + ms ≤ ms0) (hcat : (rest.map fun v => v.category).sum ≤ 8) (kk : ∀ o h', post o h' → At X (cells + mc) (slots + ms) 8 ls (va_rf o :: rest) h') : At X cells slots 5 ls (a0 :: va_rf (some b) :: rest) h :=
  st_callV (pc := 5) (M := mX1_liveStartingAt) (idx := 79) (As := [a0]) C.1 C.2.2.1 C.2.2.2.2.2.2 ⟨wM_RX8_79, wC_X1_liveStartingAt, wI_RX1, by decide +kernel, by decide⟩ wV_X1_liveStartingAt wS_X1_liveStartingAt (ci := 1) (n := 1) rfl rfl (by decide) dX8_sizeOf_5 rfl hdd hcat hK hct hmc hms (fun v h2 hp => by obtain ⟨o, rfl, hp⟩ := hp; exact kk o h2 hp)
theorem sgX8_describe_0 {X : CX} {d mc ms cells slots : Nat} {pp : Int32 → Hp → Prop} {h : Hp} {t : Nat} {x1 : Int32} {x2 : Int32}  (C : CmI X mX8_describe d mc ms pp) (hc : cells ≤ mc) (hs : slots ≤ ms) (h0 : h.K t = 9) (k0 : x2 < 0 → pp (-1) h) (k1 : ¬ x2 < 0 → x2 ≤ 5 → At X cells slots 16 [some (va_rf (some t)), some (.int x1), some (.int x2), none] [.int x1, va_rf (h.R 804 t)] h) (k2 : ¬ x2 < 0 → ¬ x2 ≤ 5 → pp (-1) h) : At X cells slots 0 [some (va_rf (some t)), some (.int x1), some (.int x2), none] [] h := by
  refine st_iload_n (pc := 0) C.1 dX8_describe_0 rfl rfl ?_
  refine st_if_lt (pc := 1) (tgt := 9) C.1 dX8_describe_1 (by decide) (fun c0 => ?_) (fun c0 => ?_)
  · refine st_iconst (pc := 9) (v := (-1)) C.1 dX8_describe_9 (by decide) ?_
    exact rt_i C (Or.inl rfl) dX8_describe_10 hc hs ⟨_, rfl, (k0 c0)⟩
  · refine st_iload_n (pc := 4) C.1 dX8_describe_4 rfl rfl ?_
    refine st_iconst (pc := 5) (v := 5) C.1 dX8_describe_5 (by decide) ?_
    refine st_icmp_le (pc := 6) (tgt := 11) C.1 dX8_describe_6 (by decide) (fun c1 => ?_) (fun c1 => ?_)
    · refine st_aload_n (pc := 11) C.1 (some t) dX8_describe_11 rfl rfl ?_
      refine gR_RX8_39 (pc := 12) C.1 (h.R 804 t) dX8_describe_12 h0 rfl ?_
      refine st_iload_n (pc := 15) C.1 dX8_describe_15 rfl rfl ?_
      exact (k1 c0 c1)
    · refine st_iconst (pc := 9) (v := (-1)) C.1 dX8_describe_9 (by decide) ?_
      exact rt_i C (Or.inl rfl) dX8_describe_10 hc hs ⟨_, rfl, (k2 c0 c1)⟩

theorem sgX8_describe_19 {X : CX} {d mc ms cells slots : Nat} {pp : Int32 → Hp → Prop} {h : Hp} {t : Nat} {x1 : Int32} {x2 : Int32} {p0 : Option Nat}  (C : CmI X mX8_describe d mc ms pp) (hc : cells ≤ mc) (hs : slots ≤ ms) (h0 : ∀ z0 : Nat, p0 = some z0 → x2.toInt < 0 ∨ 4 < x2.toInt → h.K z0 = 1) (h1 : ∀ z0 : Nat, p0 = some z0 → x2 = 0 → h.K z0 = 1) (h2 : ∀ z0 : Nat, p0 = some z0 → x2 = 1 → h.K z0 = 1) (h3 : ∀ z0 : Nat, p0 = some z0 → x2 = 2 → h.K z0 = 1) (h4 : ∀ z0 : Nat, p0 = some z0 → x2 = 3 → h.K z0 = 1) (h5 : ∀ z0 : Nat, p0 = some z0 → x2 = 4 → h.K z0 = 1) (k0 : ∀ z0 : Nat, p0 = some z0 → x2.toInt < 0 ∨ 4 < x2.toInt → pp (x1 - (h.I 2 z0)) h) (k1 : ∀ z0 : Nat, p0 = some z0 → x2 = 0 → pp (h.I 2 z0) h) (k2 : ∀ z0 : Nat, p0 = some z0 → x2 = 1 → pp (h.I 3 z0) h) (k3 : ∀ z0 : Nat, p0 = some z0 → x2 = 2 → pp (h.I 1 z0) h) (k4 : ∀ z0 : Nat, p0 = some z0 → x2 = 3 → pp (h.I 4 z0) h) (k5 : ∀ z0 : Nat, p0 = some z0 → x2 = 4 → h.I 5 z0 = 0 → pp 0 h) (k6 : ∀ z0 : Nat, p0 = some z0 → x2 = 4 → ¬ h.I 5 z0 = 0 → pp 1 h) (k7 : p0 = none → At X cells slots 24 [some (va_rf (some t)), some (.int x1), some (.int x2), some (va_rf none)] [] h) : At X cells slots 19 [some (va_rf (some t)), some (.int x1), some (.int x2), none] [va_rf p0] h := by
  refine sv_astore_n (pc := 19) (i := 3) C.1 [some (va_rf (some t)), some (.int x1), some (.int x2), some (va_rf p0)] p0 dX8_describe_19 rfl (Nat.le_of_ble_eq_true rfl) (by rw [C.2.1]; exact Nat.le_of_ble_eq_true rfl) rfl rfl ?_
  refine st_aload_n (pc := 20) C.1 p0 dX8_describe_20 rfl rfl ?_
  refine st_ifnonnull (pc := 21) (o := p0) (tgt := 34) C.1 dX8_describe_21 (by decide) (fun z0 c0 => ?_) (fun c0 => ?_)
  · try rw [c0]
    refine st_iload_n (pc := 34) C.1 dX8_describe_34 rfl rfl ?_
    by_cases c1o : x2.toInt < 0 ∨ 4 < x2.toInt
    · refine st_tableOut (pc := 35) (tgt := 101) C.1 dX8_describe_35 c1o (by decide) ?_
      refine st_iload_n (pc := 101) C.1 dX8_describe_101 rfl rfl ?_
      refine st_aload_n (pc := 102) C.1 (some z0) dX8_describe_102 rfl rfl ?_
      refine gI_RX8_74 (pc := 103) C.1 (h.I 2 z0) dX8_describe_103 (h0 z0 c0 c1o) rfl ?_
      refine st_isub (pc := 106) C.1 dX8_describe_106 ?_
      exact rt_i C (Or.inl rfl) dX8_describe_107 hc hs ⟨_, rfl, (k0 z0 c0 c1o)⟩
    · rcases (show x2.toInt = 0 ∨ x2.toInt = 1 ∨ x2.toInt = 2 ∨ x2.toInt = 3 ∨ x2.toInt = 4 by omega) with c1 | c1 | c1 | c1 | c1
      · have c1e : x2 = 0 := Int32.toInt_inj.mp (by rw [c1]; rfl)
        refine st_tableIn (pc := 35) (off := 33) (tgt := 68) C.1 dX8_describe_35 (by omega) (by omega) (by rw [c1]; rfl) (by decide) ?_
        refine st_aload_n (pc := 68) C.1 (some z0) dX8_describe_68 rfl rfl ?_
        refine gI_RX8_74 (pc := 69) C.1 (h.I 2 z0) dX8_describe_69 (h1 z0 c0 c1e) rfl ?_
        exact rt_i C (Or.inl rfl) dX8_describe_72 hc hs ⟨_, rfl, (k1 z0 c0 c1e)⟩
      · have c1e : x2 = 1 := Int32.toInt_inj.mp (by rw [c1]; rfl)
        refine st_tableIn (pc := 35) (off := 38) (tgt := 73) C.1 dX8_describe_35 (by omega) (by omega) (by rw [c1]; rfl) (by decide) ?_
        refine st_aload_n (pc := 73) C.1 (some z0) dX8_describe_73 rfl rfl ?_
        refine gI_RX8_90 (pc := 74) C.1 (h.I 3 z0) dX8_describe_74 (h2 z0 c0 c1e) rfl ?_
        exact rt_i C (Or.inl rfl) dX8_describe_77 hc hs ⟨_, rfl, (k2 z0 c0 c1e)⟩
      · have c1e : x2 = 2 := Int32.toInt_inj.mp (by rw [c1]; rfl)
        refine st_tableIn (pc := 35) (off := 43) (tgt := 78) C.1 dX8_describe_35 (by omega) (by omega) (by rw [c1]; rfl) (by decide) ?_
        refine st_aload_n (pc := 78) C.1 (some z0) dX8_describe_78 rfl rfl ?_
        refine gI_RX8_132 (pc := 79) C.1 (h.I 1 z0) dX8_describe_79 (h3 z0 c0 c1e) rfl ?_
        exact rt_i C (Or.inl rfl) dX8_describe_82 hc hs ⟨_, rfl, (k3 z0 c0 c1e)⟩
      · have c1e : x2 = 3 := Int32.toInt_inj.mp (by rw [c1]; rfl)
        refine st_tableIn (pc := 35) (off := 48) (tgt := 83) C.1 dX8_describe_35 (by omega) (by omega) (by rw [c1]; rfl) (by decide) ?_
        refine st_aload_n (pc := 83) C.1 (some z0) dX8_describe_83 rfl rfl ?_
        refine gI_RX8_135 (pc := 84) C.1 (h.I 4 z0) dX8_describe_84 (h4 z0 c0 c1e) rfl ?_
        exact rt_i C (Or.inl rfl) dX8_describe_87 hc hs ⟨_, rfl, (k4 z0 c0 c1e)⟩
      · have c1e : x2 = 4 := Int32.toInt_inj.mp (by rw [c1]; rfl)
        refine st_tableIn (pc := 35) (off := 53) (tgt := 88) C.1 dX8_describe_35 (by omega) (by omega) (by rw [c1]; rfl) (by decide) ?_
        refine st_aload_n (pc := 88) C.1 (some z0) dX8_describe_88 rfl rfl ?_
        refine gI_RX8_138 (pc := 89) C.1 (h.I 5 z0) dX8_describe_89 (h5 z0 c0 c1e) rfl ?_
        refine st_if_eq (pc := 92) (tgt := 99) C.1 dX8_describe_92 (by decide) (fun c2 => ?_) (fun c2 => ?_)
        · refine st_iconst (pc := 99) (v := 0) C.1 dX8_describe_99 (by decide) ?_
          exact rt_i C (Or.inl rfl) dX8_describe_100 hc hs ⟨_, rfl, (k5 z0 c0 c1e c2)⟩
        · refine st_iconst (pc := 95) (v := 1) C.1 dX8_describe_95 (by decide) ?_
          refine st_goto (pc := 96) (tgt := 100) C.1 dX8_describe_96 (by decide) ?_
          exact rt_i C (Or.inl rfl) dX8_describe_100 hc hs ⟨_, rfl, (k6 z0 c0 c1e c2)⟩
  · try rw [c0]
    exact (k7 c0)

theorem clX8_describe_16 {X : CX} {d0 mc0 ms0 d mc ms cells slots : Nat} {pp : Int32 → Hp → Prop} {h : Hp} {ls : List (Option Value)} {rest : List Value} {b : Nat} {a0 : Value} {post : Option Nat → Hp → Prop} (C : CmI X mX8_describe d0 mc0 ms0 pp) (hct : CtR mX1_at d mc ms [va_rf (some b), a0] h post) (hK : h.K b = 2) (hdd : d < d0) (hmc : cells + mc ≤ mc0) (hms : slots + ms ≤ ms0) (hcat : (rest.map fun v => v.category).sum ≤ 8) (kk : ∀ o h', post o h' → At X (cells + mc) (slots + ms) 19 ls (va_rf o :: rest) h') : At X cells slots 16 ls (a0 :: va_rf (some b) :: rest) h :=
  st_callV (pc := 16) (M := mX1_at) (idx := 122) (As := [a0]) C.1 C.2.2.1 C.2.2.2.2.2.2 ⟨wM_RX8_122, wC_X1_at, wI_RX1, by decide +kernel, by decide⟩ wV_X1_at wS_X1_at (ci := 1) (n := 1) rfl rfl (by decide) dX8_describe_16 rfl hdd hcat hK hct hmc hms (fun v h2 hp => by obtain ⟨o, rfl, hp⟩ := hp; exact kk o h2 hp)
theorem sgX8_setRoot_0 {X : CX} {d mc ms cells slots : Nat} {pp : Int32 → Hp → Prop} {h : Hp} {t : Nat} {x1 : Int32} {x2 : Int32} {r0 : Nat} (C : CmI X mX8_setRoot d mc ms pp) (hc : cells ≤ mc) (hs : slots ≤ ms) (h0 : h.K t = 9) (h1 : h.R 806 t = some r0) (h2 : h.K r0 = 11) (h3 : ¬ x1 < 0 → x1 < nI (h.N r0) → vp_in x1 (h.N r0)) (k0 : x1 < 0 → pp 0 h) (k1 : ¬ x1 < 0 → x1 < nI (h.N r0) → pp 1 (h.sAI r0 (x1.toNatClampNeg) x2)) (k2 : ¬ x1 < 0 → ¬ x1 < nI (h.N r0) → pp 0 h) : At X cells slots 0 [some (va_rf (some t)), some (.int x1), some (.int x2)] [] h := by
  refine st_iload_n (pc := 0) C.1 dX8_setRoot_0 rfl rfl ?_
  refine st_if_lt (pc := 1) (tgt := 13) C.1 dX8_setRoot_1 (by decide) (fun c0 => ?_) (fun c0 => ?_)
  · refine st_iconst (pc := 13) (v := 0) C.1 dX8_setRoot_13 (by decide) ?_
    exact rt_i C (Or.inr ⟨rfl, (Or.inl rfl)⟩) dX8_setRoot_14 hc hs ⟨_, rfl, (k0 c0)⟩
  · refine st_iload_n (pc := 4) C.1 dX8_setRoot_4 rfl rfl ?_
    refine st_aload_n (pc := 5) C.1 (some t) dX8_setRoot_5 rfl rfl ?_
    refine gR_RX8_50 (pc := 6) C.1 (some r0) dX8_setRoot_6 h0 h1 ?_
    refine st_alen (pc := 9) C.1 dX8_setRoot_9 (Or.inl h2) ?_
    refine st_icmp_lt (pc := 10) (tgt := 15) C.1 dX8_setRoot_10 (by decide) (fun c1 => ?_) (fun c1 => ?_)
    · refine st_aload_n (pc := 15) C.1 (some t) dX8_setRoot_15 rfl rfl ?_
      refine gR_RX8_50 (pc := 16) C.1 (some r0) dX8_setRoot_16 h0 h1 ?_
      refine st_iload_n (pc := 19) C.1 dX8_setRoot_19 rfl rfl ?_
      refine st_iload_n (pc := 20) C.1 dX8_setRoot_20 rfl rfl ?_
      refine st_iastore (pc := 21) C.1 dX8_setRoot_21 h2 (h3 c0 c1) ?_
      refine st_iconst (pc := 22) (v := 1) C.1 dX8_setRoot_22 (by decide) ?_
      exact rt_i C (Or.inr ⟨rfl, (Or.inr rfl)⟩) dX8_setRoot_23 hc hs ⟨_, rfl, (k1 c0 c1)⟩
    · refine st_iconst (pc := 13) (v := 0) C.1 dX8_setRoot_13 (by decide) ?_
      exact rt_i C (Or.inr ⟨rfl, (Or.inl rfl)⟩) dX8_setRoot_14 hc hs ⟨_, rfl, (k2 c0 c1)⟩

theorem sgX8_leakScan_0 {X : CX} {d mc ms cells slots : Nat} {pp : Int32 → Hp → Prop} {h : Hp} {t : Nat}  (C : CmI X mX8_leakScan d mc ms pp) (h0 : h.K t = 9) (k0 : At X cells slots 4 [some (va_rf (some t))] [va_rf (h.R 808 t)] h) : At X cells slots 0 [some (va_rf (some t))] [] h := by
  refine st_aload_n (pc := 0) C.1 (some t) dX8_leakScan_0 rfl rfl ?_
  refine gR_RX8_66 (pc := 1) C.1 (h.R 808 t) dX8_leakScan_1 h0 rfl ?_
  exact k0

theorem sgX8_leakScan_7 {X : CX} {d mc ms cells slots : Nat} {pp : Int32 → Hp → Prop} {h : Hp} {t : Nat} {u0 : Int32}  (C : CmI X mX8_leakScan d mc ms pp) (hc : cells ≤ mc) (hs : slots ≤ ms)  (k0 : pp u0 h) : At X cells slots 7 [some (va_rf (some t))] [.int u0] h := by
  exact rt_i C (Or.inl rfl) dX8_leakScan_7 hc hs ⟨_, rfl, k0⟩

theorem clX8_leakScan_4 {X : CX} {d0 mc0 ms0 d mc ms cells slots : Nat} {pp : Int32 → Hp → Prop} {h : Hp} {ls : List (Option Value)} {rest : List Value} {b : Nat} {post : Int32 → Hp → Prop} (C : CmI X mX8_leakScan d0 mc0 ms0 pp) (hct : CtI mX5_run d mc ms [va_rf (some b)] h post) (hK : h.K b = 6) (hdd : d < d0) (hmc : cells + mc ≤ mc0) (hms : slots + ms ≤ ms0) (hcat : (rest.map fun v => v.category).sum ≤ 8) (kk : ∀ r h', post r h' → At X (cells + mc) (slots + ms) 7 ls (.int r :: rest) h') : At X cells slots 4 ls (va_rf (some b) :: rest) h :=
  st_callV (pc := 4) (M := mX5_run) (idx := 142) (As := []) C.1 C.2.2.1 C.2.2.2.2.2.2 ⟨wM_RX8_142, wC_X5_run, wI_RX5, by decide +kernel, by decide⟩ wV_X5_run wS_X5_run (ci := 5) (n := 0) rfl rfl (by decide) dX8_leakScan_4 rfl hdd hcat hK hct hmc hms (fun v h2 hp => by obtain ⟨r, rfl, hp⟩ := hp; exact kk r h2 hp)
theorem sgX8_leak_0 {X : CX} {d mc ms cells slots : Nat} {pp : Int32 → Hp → Prop} {h : Hp} {t : Nat} {x1 : Int32} {x2 : Int32}  (C : CmI X mX8_leak d mc ms pp) (h0 : h.K t = 9) (k0 : At X cells slots 5 [some (va_rf (some t)), some (.int x1), some (.int x2), none] [.int x1, va_rf (h.R 808 t)] h) : At X cells slots 0 [some (va_rf (some t)), some (.int x1), some (.int x2), none] [] h := by
  refine st_aload_n (pc := 0) C.1 (some t) dX8_leak_0 rfl rfl ?_
  refine gR_RX8_66 (pc := 1) C.1 (h.R 808 t) dX8_leak_1 h0 rfl ?_
  refine st_iload_n (pc := 4) C.1 dX8_leak_4 rfl rfl ?_
  exact k0

theorem sgX8_leak_8 {X : CX} {d mc ms cells slots : Nat} {pp : Int32 → Hp → Prop} {h : Hp} {t : Nat} {x1 : Int32} {x2 : Int32} {p0 : Option Nat}  (C : CmI X mX8_leak d mc ms pp) (hc : cells ≤ mc) (hs : slots ≤ ms) (h0 : ∀ z0 : Nat, p0 = some z0 → x2 = 0 → h.K z0 = 1) (h1 : ∀ z0 : Nat, p0 = some z0 → x2 = 1 → h.K z0 = 1) (h2 : ∀ z0 : Nat, p0 = some z0 → x2 = 2 → h.K z0 = 1) (h3 : ∀ z0 : Nat, p0 = some z0 → x2 = 3 → h.K z0 = 1) (k0 : ∀ z0 : Nat, p0 = some z0 → x2.toInt < 0 ∨ 3 < x2.toInt → pp (-1) h) (k1 : ∀ z0 : Nat, p0 = some z0 → x2 = 0 → pp (h.I 2 z0) h) (k2 : ∀ z0 : Nat, p0 = some z0 → x2 = 1 → pp (h.I 3 z0) h) (k3 : ∀ z0 : Nat, p0 = some z0 → x2 = 2 → pp (h.I 4 z0) h) (k4 : ∀ z0 : Nat, p0 = some z0 → x2 = 3 → h.I 7 z0 = 0 → pp 0 h) (k5 : ∀ z0 : Nat, p0 = some z0 → x2 = 3 → ¬ h.I 7 z0 = 0 → pp 1 h) (k6 : p0 = none → pp (-1) h) : At X cells slots 8 [some (va_rf (some t)), some (.int x1), some (.int x2), none] [va_rf p0] h := by
  refine sv_astore_n (pc := 8) (i := 3) C.1 [some (va_rf (some t)), some (.int x1), some (.int x2), some (va_rf p0)] p0 dX8_leak_8 rfl (Nat.le_of_ble_eq_true rfl) (by rw [C.2.1]; exact Nat.le_of_ble_eq_true rfl) rfl rfl ?_
  refine st_aload_n (pc := 9) C.1 p0 dX8_leak_9 rfl rfl ?_
  refine st_ifnonnull (pc := 10) (o := p0) (tgt := 15) C.1 dX8_leak_10 (by decide) (fun z0 c0 => ?_) (fun c0 => ?_)
  · try rw [c0]
    refine st_iload_n (pc := 15) C.1 dX8_leak_15 rfl rfl ?_
    by_cases c1o : x2.toInt < 0 ∨ 3 < x2.toInt
    · refine st_tableOut (pc := 16) (tgt := 76) C.1 dX8_leak_16 c1o (by decide) ?_
      refine st_iconst (pc := 76) (v := (-1)) C.1 dX8_leak_76 (by decide) ?_
      exact rt_i C (Or.inl rfl) dX8_leak_77 hc hs ⟨_, rfl, (k0 z0 c0 c1o)⟩
    · rcases (show x2.toInt = 0 ∨ x2.toInt = 1 ∨ x2.toInt = 2 ∨ x2.toInt = 3 by omega) with c1 | c1 | c1 | c1
      · have c1e : x2 = 0 := Int32.toInt_inj.mp (by rw [c1]; rfl)
        refine st_tableIn (pc := 16) (off := 32) (tgt := 48) C.1 dX8_leak_16 (by omega) (by omega) (by rw [c1]; rfl) (by decide) ?_
        refine st_aload_n (pc := 48) C.1 (some z0) dX8_leak_48 rfl rfl ?_
        refine gI_RX8_74 (pc := 49) C.1 (h.I 2 z0) dX8_leak_49 (h0 z0 c0 c1e) rfl ?_
        exact rt_i C (Or.inl rfl) dX8_leak_52 hc hs ⟨_, rfl, (k1 z0 c0 c1e)⟩
      · have c1e : x2 = 1 := Int32.toInt_inj.mp (by rw [c1]; rfl)
        refine st_tableIn (pc := 16) (off := 37) (tgt := 53) C.1 dX8_leak_16 (by omega) (by omega) (by rw [c1]; rfl) (by decide) ?_
        refine st_aload_n (pc := 53) C.1 (some z0) dX8_leak_53 rfl rfl ?_
        refine gI_RX8_90 (pc := 54) C.1 (h.I 3 z0) dX8_leak_54 (h1 z0 c0 c1e) rfl ?_
        exact rt_i C (Or.inl rfl) dX8_leak_57 hc hs ⟨_, rfl, (k2 z0 c0 c1e)⟩
      · have c1e : x2 = 2 := Int32.toInt_inj.mp (by rw [c1]; rfl)
        refine st_tableIn (pc := 16) (off := 42) (tgt := 58) C.1 dX8_leak_16 (by omega) (by omega) (by rw [c1]; rfl) (by decide) ?_
        refine st_aload_n (pc := 58) C.1 (some z0) dX8_leak_58 rfl rfl ?_
        refine gI_RX8_135 (pc := 59) C.1 (h.I 4 z0) dX8_leak_59 (h2 z0 c0 c1e) rfl ?_
        exact rt_i C (Or.inl rfl) dX8_leak_62 hc hs ⟨_, rfl, (k3 z0 c0 c1e)⟩
      · have c1e : x2 = 3 := Int32.toInt_inj.mp (by rw [c1]; rfl)
        refine st_tableIn (pc := 16) (off := 47) (tgt := 63) C.1 dX8_leak_16 (by omega) (by omega) (by rw [c1]; rfl) (by decide) ?_
        refine st_aload_n (pc := 63) C.1 (some z0) dX8_leak_63 rfl rfl ?_
        refine gI_RX8_149 (pc := 64) C.1 (h.I 7 z0) dX8_leak_64 (h3 z0 c0 c1e) rfl ?_
        refine st_if_eq (pc := 67) (tgt := 74) C.1 dX8_leak_67 (by decide) (fun c2 => ?_) (fun c2 => ?_)
        · refine st_iconst (pc := 74) (v := 0) C.1 dX8_leak_74 (by decide) ?_
          exact rt_i C (Or.inl rfl) dX8_leak_75 hc hs ⟨_, rfl, (k4 z0 c0 c1e c2)⟩
        · refine st_iconst (pc := 70) (v := 1) C.1 dX8_leak_70 (by decide) ?_
          refine st_goto (pc := 71) (tgt := 75) C.1 dX8_leak_71 (by decide) ?_
          exact rt_i C (Or.inl rfl) dX8_leak_75 hc hs ⟨_, rfl, (k5 z0 c0 c1e c2)⟩
  · try rw [c0]
    refine st_iconst (pc := 13) (v := (-1)) C.1 dX8_leak_13 (by decide) ?_
    exact rt_i C (Or.inl rfl) dX8_leak_14 hc hs ⟨_, rfl, (k6 c0)⟩

theorem clX8_leak_5 {X : CX} {d0 mc0 ms0 d mc ms cells slots : Nat} {pp : Int32 → Hp → Prop} {h : Hp} {ls : List (Option Value)} {rest : List Value} {b : Nat} {a0 : Value} {post : Option Nat → Hp → Prop} (C : CmI X mX8_leak d0 mc0 ms0 pp) (hct : CtR mX5_lostBlock d mc ms [va_rf (some b), a0] h post) (hK : h.K b = 6) (hdd : d < d0) (hmc : cells + mc ≤ mc0) (hms : slots + ms ≤ ms0) (hcat : (rest.map fun v => v.category).sum ≤ 8) (kk : ∀ o h', post o h' → At X (cells + mc) (slots + ms) 8 ls (va_rf o :: rest) h') : At X cells slots 5 ls (a0 :: va_rf (some b) :: rest) h :=
  st_callV (pc := 5) (M := mX5_lostBlock) (idx := 146) (As := [a0]) C.1 C.2.2.1 C.2.2.2.2.2.2 ⟨wM_RX8_146, wC_X5_lostBlock, wI_RX5, by decide +kernel, by decide⟩ wV_X5_lostBlock wS_X5_lostBlock (ci := 5) (n := 1) rfl rfl (by decide) dX8_leak_5 rfl hdd hcat hK hct hmc hms (fun v h2 hp => by obtain ⟨o, rfl, hp⟩ := hp; exact kk o h2 hp)
theorem sgX8_pointers_0 {X : CX} {d mc ms cells slots : Nat} {pp : Int32 → Hp → Prop} {h : Hp} {t : Nat}  (C : CmI X mX8_pointers d mc ms pp) (h0 : h.K t = 9) (k0 : At X cells slots 4 [some (va_rf (some t))] [va_rf (h.R 808 t)] h) : At X cells slots 0 [some (va_rf (some t))] [] h := by
  refine st_aload_n (pc := 0) C.1 (some t) dX8_pointers_0 rfl rfl ?_
  refine gR_RX8_66 (pc := 1) C.1 (h.R 808 t) dX8_pointers_1 h0 rfl ?_
  exact k0

theorem sgX8_pointers_7 {X : CX} {d mc ms cells slots : Nat} {pp : Int32 → Hp → Prop} {h : Hp} {t : Nat} {u0 : Int32}  (C : CmI X mX8_pointers d mc ms pp) (hc : cells ≤ mc) (hs : slots ≤ ms)  (k0 : pp u0 h) : At X cells slots 7 [some (va_rf (some t))] [.int u0] h := by
  exact rt_i C (Or.inl rfl) dX8_pointers_7 hc hs ⟨_, rfl, k0⟩

theorem clX8_pointers_4 {X : CX} {d0 mc0 ms0 d mc ms cells slots : Nat} {pp : Int32 → Hp → Prop} {h : Hp} {ls : List (Option Value)} {rest : List Value} {b : Nat} {post : Int32 → Hp → Prop} (C : CmI X mX8_pointers d0 mc0 ms0 pp) (hct : CtI mX5_leadingNumbers d mc ms [va_rf (some b)] h post) (hK : h.K b = 6) (hdd : d < d0) (hmc : cells + mc ≤ mc0) (hms : slots + ms ≤ ms0) (hcat : (rest.map fun v => v.category).sum ≤ 8) (kk : ∀ r h', post r h' → At X (cells + mc) (slots + ms) 7 ls (.int r :: rest) h') : At X cells slots 4 ls (va_rf (some b) :: rest) h :=
  st_callV (pc := 4) (M := mX5_leadingNumbers) (idx := 152) (As := []) C.1 C.2.2.1 C.2.2.2.2.2.2 ⟨wM_RX8_152, wC_X5_leadingNumbers, wI_RX5, by decide +kernel, by decide⟩ wV_X5_leadingNumbers wS_X5_leadingNumbers (ci := 5) (n := 0) rfl rfl (by decide) dX8_pointers_4 rfl hdd hcat hK hct hmc hms (fun v h2 hp => by obtain ⟨r, rfl, hp⟩ := hp; exact kk r h2 hp)
theorem sgX8_count_0 {X : CX} {d mc ms cells slots : Nat} {pp : Int32 → Hp → Prop} {h : Hp} {t : Nat} {x1 : Int32} {r0 : Nat} {r1 : Nat} {r2 : Nat} {r3 : Nat} {r4 : Nat} (C : CmI X mX8_count d mc ms pp) (hc : cells ≤ mc) (hs : slots ≤ ms) (h0 : h.K t = 9) (h1 : h.R 803 t = some r0) (h2 : h.K r0 = 4) (h3 : h.R 805 t = some r1) (h4 : h.K r1 = 8) (h5 : h.R 807 t = some r2) (h6 : h.K r2 = 5) (h7 : h.R 800 t = some r3) (h8 : h.K r3 = 7) (h9 : h.R 600 r3 = some r4) (h10 : h.K r4 = 11) (k0 : x1.toInt < 0 ∨ 16 < x1.toInt → pp (-1) h) (k1 : x1 = 0 → pp (h.I 303 r0) h) (k2 : x1 = 1 → pp ((h.I 809 t) - (h.I 810 t)) h) (k3 : x1 = 2 → pp (h.I 812 t) h) (k4 : x1 = 3 → pp (h.I 702 r1) h) (k5 : x1 = 4 → pp (h.I 703 r1) h) (k6 : x1 = 5 → pp (h.I 305 r0) h) (k7 : x1 = 6 → pp (h.I 306 r0) h) (k8 : x1 = 7 → pp (h.I 809 t) h) (k9 : x1 = 8 → pp (h.I 810 t) h) (k10 : x1 = 9 → pp (h.I 811 t) h) (k11 : x1 = 10 → pp (h.I 307 r0) h) (k12 : x1 = 11 → pp (h.I 308 r0) h) (k13 : x1 = 12 → pp (h.I 304 r0) h) (k14 : x1 = 13 → pp (h.I 402 r2) h) (k15 : x1 = 14 → pp (nI (h.N r4)) h) (k16 : x1 = 15 → pp (h.I 801 t) h) (k17 : x1 = 16 → pp (h.I 802 t) h) : At X cells slots 0 [some (va_rf (some t)), some (.int x1)] [] h := by
  refine st_iload_n (pc := 0) C.1 dX8_count_0 rfl rfl ?_
  by_cases c0o : x1.toInt < 0 ∨ 16 < x1.toInt
  · refine st_tableOut (pc := 1) (tgt := 205) C.1 dX8_count_1 c0o (by decide) ?_
    refine st_iconst (pc := 205) (v := (-1)) C.1 dX8_count_205 (by decide) ?_
    exact rt_i C (Or.inl rfl) dX8_count_206 hc hs ⟨_, rfl, (k0 c0o)⟩
  · rcases (show x1.toInt = 0 ∨ x1.toInt = 1 ∨ x1.toInt = 2 ∨ x1.toInt = 3 ∨ x1.toInt = 4 ∨ x1.toInt = 5 ∨ x1.toInt = 6 ∨ x1.toInt = 7 ∨ x1.toInt = 8 ∨ x1.toInt = 9 ∨ x1.toInt = 10 ∨ x1.toInt = 11 ∨ x1.toInt = 12 ∨ x1.toInt = 13 ∨ x1.toInt = 14 ∨ x1.toInt = 15 ∨ x1.toInt = 16 by omega) with c0 | c0 | c0 | c0 | c0 | c0 | c0 | c0 | c0 | c0 | c0 | c0 | c0 | c0 | c0 | c0 | c0
    · have c0e : x1 = 0 := Int32.toInt_inj.mp (by rw [c0]; rfl)
      refine st_tableIn (pc := 1) (off := 83) (tgt := 84) C.1 dX8_count_1 (by omega) (by omega) (by rw [c0]; rfl) (by decide) ?_
      refine st_aload_n (pc := 84) C.1 (some t) dX8_count_84 rfl rfl ?_
      refine gR_RX8_32 (pc := 85) C.1 (some r0) dX8_count_85 h0 h1 ?_
      refine gI_RX8_155 (pc := 88) C.1 (h.I 303 r0) dX8_count_88 h2 rfl ?_
      exact rt_i C (Or.inl rfl) dX8_count_91 hc hs ⟨_, rfl, (k1 c0e)⟩
    · have c0e : x1 = 1 := Int32.toInt_inj.mp (by rw [c0]; rfl)
      refine st_tableIn (pc := 1) (off := 91) (tgt := 92) C.1 dX8_count_1 (by omega) (by omega) (by rw [c0]; rfl) (by decide) ?_
      refine st_aload_n (pc := 92) C.1 (some t) dX8_count_92 rfl rfl ?_
      refine gI_RX8_158 (pc := 93) C.1 (h.I 809 t) dX8_count_93 h0 rfl ?_
      refine st_aload_n (pc := 96) C.1 (some t) dX8_count_96 rfl rfl ?_
      refine gI_RX8_161 (pc := 97) C.1 (h.I 810 t) dX8_count_97 h0 rfl ?_
      refine st_isub (pc := 100) C.1 dX8_count_100 ?_
      exact rt_i C (Or.inl rfl) dX8_count_101 hc hs ⟨_, rfl, (k2 c0e)⟩
    · have c0e : x1 = 2 := Int32.toInt_inj.mp (by rw [c0]; rfl)
      refine st_tableIn (pc := 1) (off := 101) (tgt := 102) C.1 dX8_count_1 (by omega) (by omega) (by rw [c0]; rfl) (by decide) ?_
      refine st_aload_n (pc := 102) C.1 (some t) dX8_count_102 rfl rfl ?_
      refine gI_RX8_164 (pc := 103) C.1 (h.I 812 t) dX8_count_103 h0 rfl ?_
      exact rt_i C (Or.inl rfl) dX8_count_106 hc hs ⟨_, rfl, (k3 c0e)⟩
    · have c0e : x1 = 3 := Int32.toInt_inj.mp (by rw [c0]; rfl)
      refine st_tableIn (pc := 1) (off := 106) (tgt := 107) C.1 dX8_count_1 (by omega) (by omega) (by rw [c0]; rfl) (by decide) ?_
      refine st_aload_n (pc := 107) C.1 (some t) dX8_count_107 rfl rfl ?_
      refine gR_RX8_46 (pc := 108) C.1 (some r1) dX8_count_108 h0 h3 ?_
      refine gI_RX8_167 (pc := 111) C.1 (h.I 702 r1) dX8_count_111 h4 rfl ?_
      exact rt_i C (Or.inl rfl) dX8_count_114 hc hs ⟨_, rfl, (k4 c0e)⟩
    · have c0e : x1 = 4 := Int32.toInt_inj.mp (by rw [c0]; rfl)
      refine st_tableIn (pc := 1) (off := 114) (tgt := 115) C.1 dX8_count_1 (by omega) (by omega) (by rw [c0]; rfl) (by decide) ?_
      refine st_aload_n (pc := 115) C.1 (some t) dX8_count_115 rfl rfl ?_
      refine gR_RX8_46 (pc := 116) C.1 (some r1) dX8_count_116 h0 h3 ?_
      refine gI_RX8_170 (pc := 119) C.1 (h.I 703 r1) dX8_count_119 h4 rfl ?_
      exact rt_i C (Or.inl rfl) dX8_count_122 hc hs ⟨_, rfl, (k5 c0e)⟩
    · have c0e : x1 = 5 := Int32.toInt_inj.mp (by rw [c0]; rfl)
      refine st_tableIn (pc := 1) (off := 122) (tgt := 123) C.1 dX8_count_1 (by omega) (by omega) (by rw [c0]; rfl) (by decide) ?_
      refine st_aload_n (pc := 123) C.1 (some t) dX8_count_123 rfl rfl ?_
      refine gR_RX8_32 (pc := 124) C.1 (some r0) dX8_count_124 h0 h1 ?_
      refine gI_RX8_173 (pc := 127) C.1 (h.I 305 r0) dX8_count_127 h2 rfl ?_
      exact rt_i C (Or.inl rfl) dX8_count_130 hc hs ⟨_, rfl, (k6 c0e)⟩
    · have c0e : x1 = 6 := Int32.toInt_inj.mp (by rw [c0]; rfl)
      refine st_tableIn (pc := 1) (off := 130) (tgt := 131) C.1 dX8_count_1 (by omega) (by omega) (by rw [c0]; rfl) (by decide) ?_
      refine st_aload_n (pc := 131) C.1 (some t) dX8_count_131 rfl rfl ?_
      refine gR_RX8_32 (pc := 132) C.1 (some r0) dX8_count_132 h0 h1 ?_
      refine gI_RX8_176 (pc := 135) C.1 (h.I 306 r0) dX8_count_135 h2 rfl ?_
      exact rt_i C (Or.inl rfl) dX8_count_138 hc hs ⟨_, rfl, (k7 c0e)⟩
    · have c0e : x1 = 7 := Int32.toInt_inj.mp (by rw [c0]; rfl)
      refine st_tableIn (pc := 1) (off := 138) (tgt := 139) C.1 dX8_count_1 (by omega) (by omega) (by rw [c0]; rfl) (by decide) ?_
      refine st_aload_n (pc := 139) C.1 (some t) dX8_count_139 rfl rfl ?_
      refine gI_RX8_158 (pc := 140) C.1 (h.I 809 t) dX8_count_140 h0 rfl ?_
      exact rt_i C (Or.inl rfl) dX8_count_143 hc hs ⟨_, rfl, (k8 c0e)⟩
    · have c0e : x1 = 8 := Int32.toInt_inj.mp (by rw [c0]; rfl)
      refine st_tableIn (pc := 1) (off := 143) (tgt := 144) C.1 dX8_count_1 (by omega) (by omega) (by rw [c0]; rfl) (by decide) ?_
      refine st_aload_n (pc := 144) C.1 (some t) dX8_count_144 rfl rfl ?_
      refine gI_RX8_161 (pc := 145) C.1 (h.I 810 t) dX8_count_145 h0 rfl ?_
      exact rt_i C (Or.inl rfl) dX8_count_148 hc hs ⟨_, rfl, (k9 c0e)⟩
    · have c0e : x1 = 9 := Int32.toInt_inj.mp (by rw [c0]; rfl)
      refine st_tableIn (pc := 1) (off := 148) (tgt := 149) C.1 dX8_count_1 (by omega) (by omega) (by rw [c0]; rfl) (by decide) ?_
      refine st_aload_n (pc := 149) C.1 (some t) dX8_count_149 rfl rfl ?_
      refine gI_RX8_179 (pc := 150) C.1 (h.I 811 t) dX8_count_150 h0 rfl ?_
      exact rt_i C (Or.inl rfl) dX8_count_153 hc hs ⟨_, rfl, (k10 c0e)⟩
    · have c0e : x1 = 10 := Int32.toInt_inj.mp (by rw [c0]; rfl)
      refine st_tableIn (pc := 1) (off := 153) (tgt := 154) C.1 dX8_count_1 (by omega) (by omega) (by rw [c0]; rfl) (by decide) ?_
      refine st_aload_n (pc := 154) C.1 (some t) dX8_count_154 rfl rfl ?_
      refine gR_RX8_32 (pc := 155) C.1 (some r0) dX8_count_155 h0 h1 ?_
      refine gI_RX8_182 (pc := 158) C.1 (h.I 307 r0) dX8_count_158 h2 rfl ?_
      exact rt_i C (Or.inl rfl) dX8_count_161 hc hs ⟨_, rfl, (k11 c0e)⟩
    · have c0e : x1 = 11 := Int32.toInt_inj.mp (by rw [c0]; rfl)
      refine st_tableIn (pc := 1) (off := 161) (tgt := 162) C.1 dX8_count_1 (by omega) (by omega) (by rw [c0]; rfl) (by decide) ?_
      refine st_aload_n (pc := 162) C.1 (some t) dX8_count_162 rfl rfl ?_
      refine gR_RX8_32 (pc := 163) C.1 (some r0) dX8_count_163 h0 h1 ?_
      refine gI_RX8_185 (pc := 166) C.1 (h.I 308 r0) dX8_count_166 h2 rfl ?_
      exact rt_i C (Or.inl rfl) dX8_count_169 hc hs ⟨_, rfl, (k12 c0e)⟩
    · have c0e : x1 = 12 := Int32.toInt_inj.mp (by rw [c0]; rfl)
      refine st_tableIn (pc := 1) (off := 169) (tgt := 170) C.1 dX8_count_1 (by omega) (by omega) (by rw [c0]; rfl) (by decide) ?_
      refine st_aload_n (pc := 170) C.1 (some t) dX8_count_170 rfl rfl ?_
      refine gR_RX8_32 (pc := 171) C.1 (some r0) dX8_count_171 h0 h1 ?_
      refine gI_RX8_188 (pc := 174) C.1 (h.I 304 r0) dX8_count_174 h2 rfl ?_
      exact rt_i C (Or.inl rfl) dX8_count_177 hc hs ⟨_, rfl, (k13 c0e)⟩
    · have c0e : x1 = 13 := Int32.toInt_inj.mp (by rw [c0]; rfl)
      refine st_tableIn (pc := 1) (off := 177) (tgt := 178) C.1 dX8_count_1 (by omega) (by omega) (by rw [c0]; rfl) (by decide) ?_
      refine st_aload_n (pc := 178) C.1 (some t) dX8_count_178 rfl rfl ?_
      refine gR_RX8_57 (pc := 179) C.1 (some r2) dX8_count_179 h0 h5 ?_
      refine gI_RX8_191 (pc := 182) C.1 (h.I 402 r2) dX8_count_182 h6 rfl ?_
      exact rt_i C (Or.inl rfl) dX8_count_185 hc hs ⟨_, rfl, (k14 c0e)⟩
    · have c0e : x1 = 14 := Int32.toInt_inj.mp (by rw [c0]; rfl)
      refine st_tableIn (pc := 1) (off := 185) (tgt := 186) C.1 dX8_count_1 (by omega) (by omega) (by rw [c0]; rfl) (by decide) ?_
      refine st_aload_n (pc := 186) C.1 (some t) dX8_count_186 rfl rfl ?_
      refine gR_RX8_18 (pc := 187) C.1 (some r3) dX8_count_187 h0 h7 ?_
      refine gR_RX8_194 (pc := 190) C.1 (some r4) dX8_count_190 h8 h9 ?_
      refine st_alen (pc := 193) C.1 dX8_count_193 (Or.inl h10) ?_
      exact rt_i C (Or.inl rfl) dX8_count_194 hc hs ⟨_, rfl, (k15 c0e)⟩
    · have c0e : x1 = 15 := Int32.toInt_inj.mp (by rw [c0]; rfl)
      refine st_tableIn (pc := 1) (off := 194) (tgt := 195) C.1 dX8_count_1 (by omega) (by omega) (by rw [c0]; rfl) (by decide) ?_
      refine st_aload_n (pc := 195) C.1 (some t) dX8_count_195 rfl rfl ?_
      refine gI_RX8_22 (pc := 196) C.1 (h.I 801 t) dX8_count_196 h0 rfl ?_
      exact rt_i C (Or.inl rfl) dX8_count_199 hc hs ⟨_, rfl, (k16 c0e)⟩
    · have c0e : x1 = 16 := Int32.toInt_inj.mp (by rw [c0]; rfl)
      refine st_tableIn (pc := 1) (off := 199) (tgt := 200) C.1 dX8_count_1 (by omega) (by omega) (by rw [c0]; rfl) (by decide) ?_
      refine st_aload_n (pc := 200) C.1 (some t) dX8_count_200 rfl rfl ?_
      refine gI_RX8_26 (pc := 201) C.1 (h.I 802 t) dX8_count_201 h0 rfl ?_
      exact rt_i C (Or.inl rfl) dX8_count_204 hc hs ⟨_, rfl, (k17 c0e)⟩

theorem sgX8_freeMany_0 {X : CX} {d mc ms cells slots : Nat} {pp : Int32 → Hp → Prop} {h : Hp} {t : Nat} {x1 : Int32}  (C : CmI X mX8_freeMany d mc ms pp) (h0 : h.K t = 9) (k0 : At X cells slots 5 [some (va_rf (some t)), some (.int x1)] [.int x1, va_rf (h.R 803 t)] h) : At X cells slots 0 [some (va_rf (some t)), some (.int x1)] [] h := by
  refine st_aload_n (pc := 0) C.1 (some t) dX8_freeMany_0 rfl rfl ?_
  refine gR_RX8_32 (pc := 1) C.1 (h.R 803 t) dX8_freeMany_1 h0 rfl ?_
  refine st_iload_n (pc := 4) C.1 dX8_freeMany_4 rfl rfl ?_
  exact k0

theorem sgX8_freeMany_8 {X : CX} {d mc ms cells slots : Nat} {pp : Int32 → Hp → Prop} {h : Hp} {t : Nat} {x1 : Int32} {u0 : Int32}  (C : CmI X mX8_freeMany d mc ms pp) (hc : cells ≤ mc) (hs : slots ≤ ms)  (k0 : pp u0 h) : At X cells slots 8 [some (va_rf (some t)), some (.int x1)] [.int u0] h := by
  exact rt_i C (Or.inl rfl) dX8_freeMany_8 hc hs ⟨_, rfl, k0⟩

theorem clX8_freeMany_5 {X : CX} {d0 mc0 ms0 d mc ms cells slots : Nat} {pp : Int32 → Hp → Prop} {h : Hp} {ls : List (Option Value)} {rest : List Value} {b : Nat} {a0 : Value} {post : Int32 → Hp → Prop} (C : CmI X mX8_freeMany d0 mc0 ms0 pp) (hct : CtI mX3_manyOfSize d mc ms [va_rf (some b), a0] h post) (hK : h.K b = 4) (hdd : d < d0) (hmc : cells + mc ≤ mc0) (hms : slots + ms ≤ ms0) (hcat : (rest.map fun v => v.category).sum ≤ 8) (kk : ∀ r h', post r h' → At X (cells + mc) (slots + ms) 8 ls (.int r :: rest) h') : At X cells slots 5 ls (a0 :: va_rf (some b) :: rest) h :=
  st_callV (pc := 5) (M := mX3_manyOfSize) (idx := 196) (As := [a0]) C.1 C.2.2.1 C.2.2.2.2.2.2 ⟨wM_RX8_196, wC_X3_manyOfSize, wI_RX3, by decide +kernel, by decide⟩ wV_X3_manyOfSize wS_X3_manyOfSize (ci := 3) (n := 1) rfl rfl (by decide) dX8_freeMany_5 rfl hdd hcat hK hct hmc hms (fun v h2 hp => by obtain ⟨r, rfl, hp⟩ := hp; exact kk r h2 hp)
theorem sgX8_freeAt_0 {X : CX} {d mc ms cells slots : Nat} {pp : Int32 → Hp → Prop} {h : Hp} {t : Nat} {x1 : Int32} {x2 : Int32}  (C : CmI X mX8_freeAt d mc ms pp) (h0 : h.K t = 9) (k0 : At X cells slots 6 [some (va_rf (some t)), some (.int x1), some (.int x2)] [.int x2, .int x1, va_rf (h.R 803 t)] h) : At X cells slots 0 [some (va_rf (some t)), some (.int x1), some (.int x2)] [] h := by
  refine st_aload_n (pc := 0) C.1 (some t) dX8_freeAt_0 rfl rfl ?_
  refine gR_RX8_32 (pc := 1) C.1 (h.R 803 t) dX8_freeAt_1 h0 rfl ?_
  refine st_iload_n (pc := 4) C.1 dX8_freeAt_4 rfl rfl ?_
  refine st_iload_n (pc := 5) C.1 dX8_freeAt_5 rfl rfl ?_
  exact k0

theorem sgX8_freeAt_9 {X : CX} {d mc ms cells slots : Nat} {pp : Int32 → Hp → Prop} {h : Hp} {t : Nat} {x1 : Int32} {x2 : Int32} {u0 : Int32}  (C : CmI X mX8_freeAt d mc ms pp) (hc : cells ≤ mc) (hs : slots ≤ ms)  (k0 : pp u0 h) : At X cells slots 9 [some (va_rf (some t)), some (.int x1), some (.int x2)] [.int u0] h := by
  exact rt_i C (Or.inl rfl) dX8_freeAt_9 hc hs ⟨_, rfl, k0⟩

theorem clX8_freeAt_6 {X : CX} {d0 mc0 ms0 d mc ms cells slots : Nat} {pp : Int32 → Hp → Prop} {h : Hp} {ls : List (Option Value)} {rest : List Value} {b : Nat} {a0 a1 : Value} {post : Int32 → Hp → Prop} (C : CmI X mX8_freeAt d0 mc0 ms0 pp) (hct : CtI mX3_addressOfSize d mc ms [va_rf (some b), a0, a1] h post) (hK : h.K b = 4) (hdd : d < d0) (hmc : cells + mc ≤ mc0) (hms : slots + ms ≤ ms0) (hcat : (rest.map fun v => v.category).sum ≤ 8) (kk : ∀ r h', post r h' → At X (cells + mc) (slots + ms) 9 ls (.int r :: rest) h') : At X cells slots 6 ls (a1 :: a0 :: va_rf (some b) :: rest) h :=
  st_callV (pc := 6) (M := mX3_addressOfSize) (idx := 199) (As := [a0, a1]) C.1 C.2.2.1 C.2.2.2.2.2.2 ⟨wM_RX8_199, wC_X3_addressOfSize, wI_RX3, by decide +kernel, by decide⟩ wV_X3_addressOfSize wS_X3_addressOfSize (ci := 3) (n := 2) rfl rfl (by decide) dX8_freeAt_6 rfl hdd hcat hK hct hmc hms (fun v h2 hp => by obtain ⟨r, rfl, hp⟩ := hp; exact kk r h2 hp)
theorem sgX8_waiting_0 {X : CX} {d mc ms cells slots : Nat} {pp : Int32 → Hp → Prop} {h : Hp} {t : Nat} {x1 : Int32}  (C : CmI X mX8_waiting d mc ms pp) (h0 : h.K t = 9) (k0 : At X cells slots 5 [some (va_rf (some t)), some (.int x1), none] [.int x1, va_rf (h.R 805 t)] h) : At X cells slots 0 [some (va_rf (some t)), some (.int x1), none] [] h := by
  refine st_aload_n (pc := 0) C.1 (some t) dX8_waiting_0 rfl rfl ?_
  refine gR_RX8_46 (pc := 1) C.1 (h.R 805 t) dX8_waiting_1 h0 rfl ?_
  refine st_iload_n (pc := 4) C.1 dX8_waiting_4 rfl rfl ?_
  exact k0

theorem sgX8_waiting_8 {X : CX} {d mc ms cells slots : Nat} {pp : Int32 → Hp → Prop} {h : Hp} {t : Nat} {x1 : Int32} {p0 : Option Nat}  (C : CmI X mX8_waiting d mc ms pp) (hc : cells ≤ mc) (hs : slots ≤ ms) (h0 : ∀ z0 : Nat, p0 = some z0 → h.K z0 = 1) (k0 : ∀ z0 : Nat, p0 = some z0 → pp (h.I 2 z0) h) (k1 : p0 = none → pp (-1) h) : At X cells slots 8 [some (va_rf (some t)), some (.int x1), none] [va_rf p0] h := by
  refine sv_astore_n (pc := 8) (i := 2) C.1 [some (va_rf (some t)), some (.int x1), some (va_rf p0)] p0 dX8_waiting_8 rfl (Nat.le_of_ble_eq_true rfl) (by rw [C.2.1]; exact Nat.le_of_ble_eq_true rfl) rfl rfl ?_
  refine st_aload_n (pc := 9) C.1 p0 dX8_waiting_9 rfl rfl ?_
  refine st_ifnonnull (pc := 10) (o := p0) (tgt := 17) C.1 dX8_waiting_10 (by decide) (fun z0 c0 => ?_) (fun c0 => ?_)
  · try rw [c0]
    refine st_aload_n (pc := 17) C.1 (some z0) dX8_waiting_17 rfl rfl ?_
    refine gI_RX8_74 (pc := 18) C.1 (h.I 2 z0) dX8_waiting_18 (h0 z0 c0) rfl ?_
    exact rt_i C (Or.inl rfl) dX8_waiting_21 hc hs ⟨_, rfl, (k0 z0 c0)⟩
  · try rw [c0]
    refine st_iconst (pc := 13) (v := (-1)) C.1 dX8_waiting_13 (by decide) ?_
    refine st_goto (pc := 14) (tgt := 21) C.1 dX8_waiting_14 (by decide) ?_
    exact rt_i C (Or.inl rfl) dX8_waiting_21 hc hs ⟨_, rfl, (k1 c0)⟩

theorem clX8_waiting_5 {X : CX} {d0 mc0 ms0 d mc ms cells slots : Nat} {pp : Int32 → Hp → Prop} {h : Hp} {ls : List (Option Value)} {rest : List Value} {b : Nat} {a0 : Value} {post : Option Nat → Hp → Prop} (C : CmI X mX8_waiting d0 mc0 ms0 pp) (hct : CtR mX7_behindFirst d mc ms [va_rf (some b), a0] h post) (hK : h.K b = 8) (hdd : d < d0) (hmc : cells + mc ≤ mc0) (hms : slots + ms ≤ ms0) (hcat : (rest.map fun v => v.category).sum ≤ 8) (kk : ∀ o h', post o h' → At X (cells + mc) (slots + ms) 8 ls (va_rf o :: rest) h') : At X cells slots 5 ls (a0 :: va_rf (some b) :: rest) h :=
  st_callV (pc := 5) (M := mX7_behindFirst) (idx := 202) (As := [a0]) C.1 C.2.2.1 C.2.2.2.2.2.2 ⟨wM_RX8_202, wC_X7_behindFirst, wI_RX7, by decide +kernel, by decide⟩ wV_X7_behindFirst wS_X7_behindFirst (ci := 7) (n := 1) rfl rfl (by decide) dX8_waiting_5 rfl hdd hcat hK hct hmc hms (fun v h2 hp => by obtain ⟨o, rfl, hp⟩ := hp; exact kk o h2 hp)
theorem sgX8_fault_0 {X : CX} {d mc ms cells slots : Nat} {pp : Int32 → Hp → Prop} {h : Hp} {t : Nat} {x1 : Int32} {x2 : Int32}  (C : CmI X mX8_fault d mc ms pp) (h0 : h.K t = 9) (k0 : At X cells slots 5 [some (va_rf (some t)), some (.int x1), some (.int x2)] [.int x1, va_rf (h.R 807 t)] h) : At X cells slots 0 [some (va_rf (some t)), some (.int x1), some (.int x2)] [] h := by
  refine st_aload_n (pc := 0) C.1 (some t) dX8_fault_0 rfl rfl ?_
  refine gR_RX8_57 (pc := 1) C.1 (h.R 807 t) dX8_fault_1 h0 rfl ?_
  refine st_iload_n (pc := 4) C.1 dX8_fault_4 rfl rfl ?_
  exact k0

theorem sgX8_fault_8 {X : CX} {d mc ms cells slots : Nat} {pp : Int32 → Hp → Prop} {h : Hp} {t : Nat} {x1 : Int32} {x2 : Int32} {u0 : Int32}  (C : CmI X mX8_fault d mc ms pp) (h0 : h.K t = 9) (k0 : u0 = 0 → At X cells slots 20 [some (va_rf (some t)), some (.int x1), some (.int x2)] [] h) (k1 : ¬ u0 = 0 → x2 < 0 → At X cells slots 20 [some (va_rf (some t)), some (.int x1), some (.int x2)] [] h) (k2 : ¬ u0 = 0 → ¬ x2 < 0 → x2 ≤ 1 → ¬ x2 = 0 → At X cells slots 50 [some (va_rf (some t)), some (.int x1), some (.int x2)] [.int x1, va_rf (h.R 807 t)] h) (k3 : ¬ u0 = 0 → ¬ x2 < 0 → x2 ≤ 1 → x2 = 0 → At X cells slots 39 [some (va_rf (some t)), some (.int x1), some (.int x2)] [.int x1, va_rf (h.R 807 t)] h) (k4 : ¬ u0 = 0 → ¬ x2 < 0 → ¬ x2 ≤ 1 → At X cells slots 20 [some (va_rf (some t)), some (.int x1), some (.int x2)] [] h) : At X cells slots 8 [some (va_rf (some t)), some (.int x1), some (.int x2)] [.int u0] h := by
  refine st_if_eq (pc := 8) (tgt := 20) C.1 dX8_fault_8 (by decide) (fun c0 => ?_) (fun c0 => ?_)
  · exact (k0 c0)
  · refine st_iload_n (pc := 11) C.1 dX8_fault_11 rfl rfl ?_
    refine st_if_lt (pc := 12) (tgt := 20) C.1 dX8_fault_12 (by decide) (fun c1 => ?_) (fun c1 => ?_)
    · exact (k1 c0 c1)
    · refine st_iload_n (pc := 15) C.1 dX8_fault_15 rfl rfl ?_
      refine st_iconst (pc := 16) (v := 1) C.1 dX8_fault_16 (by decide) ?_
      refine st_icmp_le (pc := 17) (tgt := 30) C.1 dX8_fault_17 (by decide) (fun c2 => ?_) (fun c2 => ?_)
      · refine st_iload_n (pc := 30) C.1 dX8_fault_30 rfl rfl ?_
        refine st_if_ne (pc := 31) (tgt := 45) C.1 dX8_fault_31 (by decide) (fun c3 => ?_) (fun c3 => ?_)
        · refine st_aload_n (pc := 45) C.1 (some t) dX8_fault_45 rfl rfl ?_
          refine gR_RX8_57 (pc := 46) C.1 (h.R 807 t) dX8_fault_46 h0 rfl ?_
          refine st_iload_n (pc := 49) C.1 dX8_fault_49 rfl rfl ?_
          exact (k2 c0 c1 c2 c3)
        · refine st_aload_n (pc := 34) C.1 (some t) dX8_fault_34 rfl rfl ?_
          refine gR_RX8_57 (pc := 35) C.1 (h.R 807 t) dX8_fault_35 h0 rfl ?_
          refine st_iload_n (pc := 38) C.1 dX8_fault_38 rfl rfl ?_
          exact (k3 c0 c1 c2 c3)
      · exact (k4 c0 c1 c2)

theorem sgX8_fault_42 {X : CX} {d mc ms cells slots : Nat} {pp : Int32 → Hp → Prop} {h : Hp} {t : Nat} {x1 : Int32} {x2 : Int32} {u0 : Int32}  (C : CmI X mX8_fault d mc ms pp) (hc : cells ≤ mc) (hs : slots ≤ ms)  (k0 : pp u0 h) : At X cells slots 42 [some (va_rf (some t)), some (.int x1), some (.int x2)] [.int u0] h := by
  refine st_goto (pc := 42) (tgt := 53) C.1 dX8_fault_42 (by decide) ?_
  exact rt_i C (Or.inl rfl) dX8_fault_53 hc hs ⟨_, rfl, k0⟩

theorem sgX8_fault_53 {X : CX} {d mc ms cells slots : Nat} {pp : Int32 → Hp → Prop} {h : Hp} {t : Nat} {x1 : Int32} {x2 : Int32} {u0 : Int32}  (C : CmI X mX8_fault d mc ms pp) (hc : cells ≤ mc) (hs : slots ≤ ms)  (k0 : pp u0 h) : At X cells slots 53 [some (va_rf (some t)), some (.int x1), some (.int x2)] [.int u0] h := by
  exact rt_i C (Or.inl rfl) dX8_fault_53 hc hs ⟨_, rfl, k0⟩

theorem clX8_fault_5 {X : CX} {d0 mc0 ms0 d mc ms cells slots : Nat} {pp : Int32 → Hp → Prop} {h : Hp} {ls : List (Option Value)} {rest : List Value} {b : Nat} {a0 : Value} {post : Int32 → Hp → Prop} (C : CmI X mX8_fault d0 mc0 ms0 pp) (hct : CtI mX4_has d mc ms [va_rf (some b), a0] h post) (hK : h.K b = 5) (hdd : d < d0) (hmc : cells + mc ≤ mc0) (hms : slots + ms ≤ ms0) (hcat : (rest.map fun v => v.category).sum ≤ 8) (kk : ∀ r h', post r h' → At X (cells + mc) (slots + ms) 8 ls (.int r :: rest) h') : At X cells slots 5 ls (a0 :: va_rf (some b) :: rest) h :=
  st_callV (pc := 5) (M := mX4_has) (idx := 205) (As := [a0]) C.1 C.2.2.1 C.2.2.2.2.2.2 ⟨wM_RX8_205, wC_X4_has, wI_RX4, by decide +kernel, by decide⟩ wV_X4_has wS_X4_has (ci := 4) (n := 1) rfl rfl (by decide) dX8_fault_5 rfl hdd hcat hK hct hmc hms (fun v h2 hp => by obtain ⟨r, rfl, hp⟩ := hp; exact kk r h2 hp)
theorem clX8_fault_39 {X : CX} {d0 mc0 ms0 d mc ms cells slots : Nat} {pp : Int32 → Hp → Prop} {h : Hp} {ls : List (Option Value)} {rest : List Value} {b : Nat} {a0 : Value} {post : Int32 → Hp → Prop} (C : CmI X mX8_fault d0 mc0 ms0 pp) (hct : CtI mX4_kindOf d mc ms [va_rf (some b), a0] h post) (hK : h.K b = 5) (hdd : d < d0) (hmc : cells + mc ≤ mc0) (hms : slots + ms ≤ ms0) (hcat : (rest.map fun v => v.category).sum ≤ 8) (kk : ∀ r h', post r h' → At X (cells + mc) (slots + ms) 42 ls (.int r :: rest) h') : At X cells slots 39 ls (a0 :: va_rf (some b) :: rest) h :=
  st_callV (pc := 39) (M := mX4_kindOf) (idx := 211) (As := [a0]) C.1 C.2.2.1 C.2.2.2.2.2.2 ⟨wM_RX8_211, wC_X4_kindOf, wI_RX4, by decide +kernel, by decide⟩ wV_X4_kindOf wS_X4_kindOf (ci := 4) (n := 1) rfl rfl (by decide) dX8_fault_39 rfl hdd hcat hK hct hmc hms (fun v h2 hp => by obtain ⟨r, rfl, hp⟩ := hp; exact kk r h2 hp)
theorem clX8_fault_50 {X : CX} {d0 mc0 ms0 d mc ms cells slots : Nat} {pp : Int32 → Hp → Prop} {h : Hp} {ls : List (Option Value)} {rest : List Value} {b : Nat} {a0 : Value} {post : Int32 → Hp → Prop} (C : CmI X mX8_fault d0 mc0 ms0 pp) (hct : CtI mX4_addressOf d mc ms [va_rf (some b), a0] h post) (hK : h.K b = 5) (hdd : d < d0) (hmc : cells + mc ≤ mc0) (hms : slots + ms ≤ ms0) (hcat : (rest.map fun v => v.category).sum ≤ 8) (kk : ∀ r h', post r h' → At X (cells + mc) (slots + ms) 53 ls (.int r :: rest) h') : At X cells slots 50 ls (a0 :: va_rf (some b) :: rest) h :=
  st_callV (pc := 50) (M := mX4_addressOf) (idx := 214) (As := [a0]) C.1 C.2.2.1 C.2.2.2.2.2.2 ⟨wM_RX8_214, wC_X4_addressOf, wI_RX4, by decide +kernel, by decide⟩ wV_X4_addressOf wS_X4_addressOf (ci := 4) (n := 1) rfl rfl (by decide) dX8_fault_50 rfl hdd hcat hK hct hmc hms (fun v h2 hp => by obtain ⟨r, rfl, hp⟩ := hp; exact kk r h2 hp)
theorem sgX8_nearest_0 {X : CX} {d mc ms cells slots : Nat} {pp : Int32 → Hp → Prop} {h : Hp} {x0 : Int32} {x1 : Int32} {x2 : Int32}  (C : CmI X mX8_nearest d mc ms pp)  (k0 : At X cells slots 3 [some (.int x0), some (.int x1), some (.int x2)] [.int x0, .int x2, .int x1] h) : At X cells slots 0 [some (.int x0), some (.int x1), some (.int x2)] [] h := by
  refine st_iload_n (pc := 0) C.1 dX8_nearest_0 rfl rfl ?_
  refine st_iload_n (pc := 1) C.1 dX8_nearest_1 rfl rfl ?_
  refine st_iload_n (pc := 2) C.1 dX8_nearest_2 rfl rfl ?_
  exact k0

theorem sgX8_nearest_6 {X : CX} {d mc ms cells slots : Nat} {pp : Int32 → Hp → Prop} {h : Hp} {x0 : Int32} {x1 : Int32} {x2 : Int32} {u0 : Int32} {u1 : Int32}  (C : CmI X mX8_nearest d mc ms pp)  (k0 : At X cells slots 6 [some (.int x0), some (.int x1), some (.int x2)] [.int u0, .int u1] h) : At X cells slots 6 [some (.int x0), some (.int x1), some (.int x2)] [.int u0, .int u1] h := by
  exact k0

theorem sgX8_nearest_9 {X : CX} {d mc ms cells slots : Nat} {pp : Int32 → Hp → Prop} {h : Hp} {x0 : Int32} {x1 : Int32} {x2 : Int32} {u0 : Int32}  (C : CmI X mX8_nearest d mc ms pp) (hc : cells ≤ mc) (hs : slots ≤ ms)  (k0 : pp u0 h) : At X cells slots 9 [some (.int x0), some (.int x1), some (.int x2)] [.int u0] h := by
  exact rt_i C (Or.inl rfl) dX8_nearest_9 hc hs ⟨_, rfl, k0⟩

theorem clX8_nearest_3 {X : CX} {d0 mc0 ms0 d mc ms cells slots : Nat} {pp : Int32 → Hp → Prop} {h : Hp} {ls : List (Option Value)} {rest : List Value} {a0 a1 : Value} {post : Int32 → Hp → Prop} (C : CmI X mX8_nearest d0 mc0 ms0 pp) (hct : CtI mJ9_min_7cf53 d mc ms [a0, a1] h post) (hdd : d < d0) (hmc : cells + mc ≤ mc0) (hms : slots + ms ≤ ms0) (hcat : (rest.map fun v => v.category).sum ≤ 8) (kk : ∀ r h', post r h' → At X (cells + mc) (slots + ms) 6 ls (.int r :: rest) h') : At X cells slots 3 ls (a1 :: a0 :: rest) h :=
  st_callS (pc := 3) (M := mJ9_min_7cf53) (idx := 93) (As := [a0, a1]) C.1 C.2.2.1 C.2.2.2.2.2.2 (n := 2) ⟨wM_RX8_93, wC_J9_min_7cf53, wI_RJ9, by decide +kernel, by decide⟩ wT_J9_min_7cf53 dX8_nearest_3 rfl hdd hcat hct hmc hms (fun v h2 hp => by obtain ⟨r, rfl, hp⟩ := hp; exact kk r h2 hp)
theorem clX8_nearest_6 {X : CX} {d0 mc0 ms0 d mc ms cells slots : Nat} {pp : Int32 → Hp → Prop} {h : Hp} {ls : List (Option Value)} {rest : List Value} {a0 a1 : Value} {post : Int32 → Hp → Prop} (C : CmI X mX8_nearest d0 mc0 ms0 pp) (hct : CtI mJ9_max_7cf53 d mc ms [a0, a1] h post) (hdd : d < d0) (hmc : cells + mc ≤ mc0) (hms : slots + ms ≤ ms0) (hcat : (rest.map fun v => v.category).sum ≤ 8) (kk : ∀ r h', post r h' → At X (cells + mc) (slots + ms) 9 ls (.int r :: rest) h') : At X cells slots 6 ls (a1 :: a0 :: rest) h :=
  st_callS (pc := 6) (M := mJ9_max_7cf53) (idx := 217) (As := [a0, a1]) C.1 C.2.2.1 C.2.2.2.2.2.2 (n := 2) ⟨wM_RX8_217, wC_J9_max_7cf53, wI_RJ9, by decide +kernel, by decide⟩ wT_J9_max_7cf53 dX8_nearest_6 rfl hdd hcat hct hmc hms (fun v h2 hp => by obtain ⟨r, rfl, hp⟩ := hp; exact kk r h2 hp)
theorem sgX8_needed_0 {X : CX} {d mc ms cells slots : Nat} {pp : Int32 → Hp → Prop} {h : Hp} {t : Nat} {x1 : Int32} {r0 : Nat} {r1 : Nat} (C : CmI X mX8_needed d mc ms pp) (h0 : h.K t = 9) (h1 : h.R 800 t = some r0) (h2 : h.K r0 = 7) (h3 : h.R 600 r0 = some r1) (h4 : h.K r1 = 11) (k0 : At X cells slots 9 [some (va_rf (some t)), some (.int x1), none] [.int (nI (h.N r1)), .int x1] h) : At X cells slots 0 [some (va_rf (some t)), some (.int x1), none] [] h := by
  refine st_iload_n (pc := 0) C.1 dX8_needed_0 rfl rfl ?_
  refine st_aload_n (pc := 1) C.1 (some t) dX8_needed_1 rfl rfl ?_
  refine gR_RX8_18 (pc := 2) C.1 (some r0) dX8_needed_2 h0 h1 ?_
  refine gR_RX8_194 (pc := 5) C.1 (some r1) dX8_needed_5 h2 h3 ?_
  refine st_alen (pc := 8) C.1 dX8_needed_8 (Or.inl h4) ?_
  exact k0

theorem sgX8_needed_12 {X : CX} {d mc ms cells slots : Nat} {pp : Int32 → Hp → Prop} {h : Hp} {t : Nat} {x1 : Int32} {u0 : Int32}  (C : CmI X mX8_needed d mc ms pp) (hc : cells ≤ mc) (hs : slots ≤ ms) (h0 : h.K t = 9) (k0 : pp (((((u0 + (2 * (h.I 801 t))) + 4) - 1) / 4) * 4) h) : At X cells slots 12 [some (va_rf (some t)), some (.int x1), none] [.int u0] h := by
  refine sv_istore_n (pc := 12) (i := 2) C.1 [some (va_rf (some t)), some (.int x1), some (.int u0)] dX8_needed_12 rfl (Nat.le_of_ble_eq_true rfl) (by rw [C.2.1]; exact Nat.le_of_ble_eq_true rfl) rfl rfl ?_
  refine st_iload_n (pc := 13) C.1 dX8_needed_13 rfl rfl ?_
  refine st_iconst (pc := 14) (v := 2) C.1 dX8_needed_14 (by decide) ?_
  refine st_aload_n (pc := 15) C.1 (some t) dX8_needed_15 rfl rfl ?_
  refine gI_RX8_22 (pc := 16) C.1 (h.I 801 t) dX8_needed_16 h0 rfl ?_
  refine st_imul (pc := 19) C.1 dX8_needed_19 ?_
  refine st_iadd (pc := 20) C.1 dX8_needed_20 ?_
  refine st_iconst (pc := 21) (v := 4) C.1 dX8_needed_21 (by decide) ?_
  refine st_iadd (pc := 22) C.1 dX8_needed_22 ?_
  refine st_iconst (pc := 23) (v := 1) C.1 dX8_needed_23 (by decide) ?_
  refine st_isub (pc := 24) C.1 dX8_needed_24 ?_
  refine st_iconst (pc := 25) (v := 4) C.1 dX8_needed_25 (by decide) ?_
  refine st_idiv (pc := 26) C.1 dX8_needed_26 (by decide) ?_
  refine st_iconst (pc := 27) (v := 4) C.1 dX8_needed_27 (by decide) ?_
  refine st_imul (pc := 28) C.1 dX8_needed_28 ?_
  exact rt_i C (Or.inl rfl) dX8_needed_29 hc hs ⟨_, rfl, k0⟩

theorem clX8_needed_9 {X : CX} {d0 mc0 ms0 d mc ms cells slots : Nat} {pp : Int32 → Hp → Prop} {h : Hp} {ls : List (Option Value)} {rest : List Value} {a0 a1 : Value} {post : Int32 → Hp → Prop} (C : CmI X mX8_needed d0 mc0 ms0 pp) (hct : CtI mJ9_min_7cf53 d mc ms [a0, a1] h post) (hdd : d < d0) (hmc : cells + mc ≤ mc0) (hms : slots + ms ≤ ms0) (hcat : (rest.map fun v => v.category).sum ≤ 8) (kk : ∀ r h', post r h' → At X (cells + mc) (slots + ms) 12 ls (.int r :: rest) h') : At X cells slots 9 ls (a1 :: a0 :: rest) h :=
  st_callS (pc := 9) (M := mJ9_min_7cf53) (idx := 93) (As := [a0, a1]) C.1 C.2.2.1 C.2.2.2.2.2.2 (n := 2) ⟨wM_RX8_93, wC_J9_min_7cf53, wI_RJ9, by decide +kernel, by decide⟩ wT_J9_min_7cf53 dX8_needed_9 rfl hdd hcat hct hmc hms (fun v h2 hp => by obtain ⟨r, rfl, hp⟩ := hp; exact kk r h2 hp)
theorem sgX8_give_0 {X : CX} {d mc ms cells slots : Nat} {pp : Option Nat → Hp → Prop} {h : Hp} {t : Nat} {x1 : Int32}  (C : CmR X mX8_give d mc ms pp)  (k0 : At X cells slots 2 [some (va_rf (some t)), some (.int x1), none, none, none] [.int x1, va_rf (some t)] h) : At X cells slots 0 [some (va_rf (some t)), some (.int x1), none, none, none] [] h := by
  refine st_aload_n (pc := 0) C.1 (some t) dX8_give_0 rfl rfl ?_
  refine st_iload_n (pc := 1) C.1 dX8_give_1 rfl rfl ?_
  exact k0

theorem sgX8_give_5 {X : CX} {d mc ms cells slots : Nat} {pp : Option Nat → Hp → Prop} {h : Hp} {t : Nat} {x1 : Int32} {u0 : Int32}  (C : CmR X mX8_give d mc ms pp) (h0 : h.K t = 9) (k0 : At X cells slots 11 [some (va_rf (some t)), some (.int x1), some (.int u0), none, none] [.int u0, va_rf (h.R 803 t)] h) : At X cells slots 5 [some (va_rf (some t)), some (.int x1), none, none, none] [.int u0] h := by
  refine sv_istore_n (pc := 5) (i := 2) C.1 [some (va_rf (some t)), some (.int x1), some (.int u0), none, none] dX8_give_5 rfl (Nat.le_of_ble_eq_true rfl) (by rw [C.2.1]; exact Nat.le_of_ble_eq_true rfl) rfl rfl ?_
  refine st_aload_n (pc := 6) C.1 (some t) dX8_give_6 rfl rfl ?_
  refine gR_RX8_32 (pc := 7) C.1 (h.R 803 t) dX8_give_7 h0 rfl ?_
  refine st_iload_n (pc := 10) C.1 dX8_give_10 rfl rfl ?_
  exact k0

theorem sgX8_give_14 {X : CX} {d mc ms cells slots : Nat} {pp : Option Nat → Hp → Prop} {h : Hp} {t : Nat} {x1 : Int32} {x2 : Int32} {u0 : Int32} {r0 : Nat} (C : CmR X mX8_give d mc ms pp) (h0 : h.K t = 9) (h1 : h.R 805 t = some r0) (h2 : h.K r0 = 8) (k0 : At X cells slots 24 [some (va_rf (some t)), some (.int x1), some (.int x2), some (.int u0), some (.int (h.I 702 r0))] [] h) : At X cells slots 14 [some (va_rf (some t)), some (.int x1), some (.int x2), none, none] [.int u0] h := by
  refine sv_istore_n (pc := 14) (i := 3) C.1 [some (va_rf (some t)), some (.int x1), some (.int x2), some (.int u0), none] dX8_give_14 rfl (Nat.le_of_ble_eq_true rfl) (by rw [C.2.1]; exact Nat.le_of_ble_eq_true rfl) rfl rfl ?_
  refine st_aload_n (pc := 15) C.1 (some t) dX8_give_15 rfl rfl ?_
  refine gR_RX8_46 (pc := 16) C.1 (some r0) dX8_give_16 h0 h1 ?_
  refine gI_RX8_167 (pc := 19) C.1 (h.I 702 r0) dX8_give_19 h2 rfl ?_
  refine sv_istore (pc := 22) (i := 4) C.1 [some (va_rf (some t)), some (.int x1), some (.int x2), some (.int u0), some (.int (h.I 702 r0))] dX8_give_22 (Nat.le_of_ble_eq_true rfl) (by rw [C.2.1]; exact Nat.le_of_ble_eq_true rfl) rfl rfl ?_
  exact k0

theorem sgX8_give_24 {X : CX} {d mc ms cells slots : Nat} {pp : Option Nat → Hp → Prop} {h : Hp} {t : Nat} {x1 : Int32} {x2 : Int32} {x3 : Int32} {x4 : Int32}  (C : CmR X mX8_give d mc ms pp) (hc : cells ≤ mc) (hs : slots ≤ ms)  (k0 : ¬ x3 = (-1) → ¬ x3 = (-1) → At X cells slots 60 [some (va_rf (some t)), some (.int x1), some (.int x2), some (.int x3), some (.int x4)] [] h) (k1 : ¬ x3 = (-1) → x3 = (-1) → pp none h) (k2 : x3 = (-1) → x4 ≤ 0 → ¬ x3 = (-1) → At X cells slots 60 [some (va_rf (some t)), some (.int x1), some (.int x2), some (.int x3), some (.int x4)] [] h) (k3 : x3 = (-1) → x4 ≤ 0 → x3 = (-1) → pp none h) (k4 : x3 = (-1) → ¬ x4 ≤ 0 → At X cells slots 35 [some (va_rf (some t)), some (.int x1), some (.int x2), some (.int x3), some (.int x4)] [va_rf (some t)] h) : At X cells slots 24 [some (va_rf (some t)), some (.int x1), some (.int x2), some (.int x3), some (.int x4)] [] h := by
  refine st_iload_n (pc := 24) C.1 dX8_give_24 rfl rfl ?_
  refine st_iconst (pc := 25) (v := (-1)) C.1 dX8_give_25 (by decide) ?_
  refine st_icmp_ne (pc := 26) (tgt := 53) C.1 dX8_give_26 (by decide) (fun c0 => ?_) (fun c0 => ?_)
  · refine st_iload_n (pc := 53) C.1 dX8_give_53 rfl rfl ?_
    refine st_iconst (pc := 54) (v := (-1)) C.1 dX8_give_54 (by decide) ?_
    refine st_icmp_ne (pc := 55) (tgt := 60) C.1 dX8_give_55 (by decide) (fun c1 => ?_) (fun c1 => ?_)
    · exact (k0 c0 c1)
    · refine st_nullq (pc := 58) C.1 dX8_give_58 ?_
      exact rt_a C none rfl dX8_give_59 hc hs ⟨_, rfl, (k1 c0 c1)⟩
  · refine st_iload (pc := 29) C.1 dX8_give_29 rfl ?_
    refine st_if_le (pc := 31) (tgt := 53) C.1 dX8_give_31 (by decide) (fun c2 => ?_) (fun c2 => ?_)
    · refine st_iload_n (pc := 53) C.1 dX8_give_53 rfl rfl ?_
      refine st_iconst (pc := 54) (v := (-1)) C.1 dX8_give_54 (by decide) ?_
      refine st_icmp_ne (pc := 55) (tgt := 60) C.1 dX8_give_55 (by decide) (fun c3 => ?_) (fun c3 => ?_)
      · exact (k2 c0 c2 c3)
      · refine st_nullq (pc := 58) C.1 dX8_give_58 ?_
        exact rt_a C none rfl dX8_give_59 hc hs ⟨_, rfl, (k3 c0 c2 c3)⟩
    · refine st_aload_n (pc := 34) C.1 (some t) dX8_give_34 rfl rfl ?_
      exact (k4 c0 c2)

theorem sgX8_give_38 {X : CX} {d mc ms cells slots : Nat} {pp : Option Nat → Hp → Prop} {h : Hp} {t : Nat} {x1 : Int32} {x2 : Int32} {x3 : Int32} {x4 : Int32}  (C : CmR X mX8_give d mc ms pp) (h0 : h.K t = 9) (k0 : At X cells slots 43 [some (va_rf (some t)), some (.int x1), some (.int x2), some (.int x3), some (.int x4)] [.int x2, va_rf (h.R 803 t)] h) : At X cells slots 38 [some (va_rf (some t)), some (.int x1), some (.int x2), some (.int x3), some (.int x4)] [] h := by
  refine st_aload_n (pc := 38) C.1 (some t) dX8_give_38 rfl rfl ?_
  refine gR_RX8_32 (pc := 39) C.1 (h.R 803 t) dX8_give_39 h0 rfl ?_
  refine st_iload_n (pc := 42) C.1 dX8_give_42 rfl rfl ?_
  exact k0

theorem sgX8_give_46 {X : CX} {d mc ms cells slots : Nat} {pp : Option Nat → Hp → Prop} {h : Hp} {t : Nat} {x1 : Int32} {x2 : Int32} {x3 : Int32} {x4 : Int32} {u0 : Int32}  (C : CmR X mX8_give d mc ms pp)  (k0 : At X cells slots 24 [some (va_rf (some t)), some (.int x1), some (.int x2), some (.int u0), some (.int (x4 + (-1)))] [] h) : At X cells slots 46 [some (va_rf (some t)), some (.int x1), some (.int x2), some (.int x3), some (.int x4)] [.int u0] h := by
  refine sv_istore_n (pc := 46) (i := 3) C.1 [some (va_rf (some t)), some (.int x1), some (.int x2), some (.int u0), some (.int x4)] dX8_give_46 rfl (Nat.le_of_ble_eq_true rfl) (by rw [C.2.1]; exact Nat.le_of_ble_eq_true rfl) rfl rfl ?_
  refine sv_iinc (pc := 47) (i := 4) (v := x4 + (-1)) C.1 [some (va_rf (some t)), some (.int x1), some (.int x2), some (.int u0), some (.int (x4 + (-1)))] dX8_give_47 rfl rfl (by rw [C.2.1]; exact Nat.le_of_ble_eq_true rfl) rfl rfl ?_
  refine st_goto (pc := 50) (tgt := 24) C.1 dX8_give_50 (by decide) ?_
  exact k0

theorem sgX8_give_63 {X : CX} {d mc ms cells slots : Nat} {pp : Option Nat → Hp → Prop} {h : Hp} {t : Nat} {x1 : Int32} {x2 : Int32} {x3 : Int32} {x4 : Int32} {p0 : Option Nat}  (C : CmR X mX8_give d mc ms pp) (h0 : h.K t = 9) (k0 : At X cells slots 77 [some (va_rf (some t)), some (.int x1), some (.int x2), some (.int x3), some (.int x4)] [.int (h.I 809 t), .int x1, .int (x3 + (h.I 801 t)), .int x2, .int x3, va_rf p0, va_rf p0] h) : At X cells slots 63 [some (va_rf (some t)), some (.int x1), some (.int x2), some (.int x3), some (.int x4)] [va_rf p0] h := by
  refine st_dup (pc := 63) C.1 dX8_give_63 (rf_cat p0) ?_
  refine st_iload_n (pc := 64) C.1 dX8_give_64 rfl rfl ?_
  refine st_iload_n (pc := 65) C.1 dX8_give_65 rfl rfl ?_
  refine st_iload_n (pc := 66) C.1 dX8_give_66 rfl rfl ?_
  refine st_aload_n (pc := 67) C.1 (some t) dX8_give_67 rfl rfl ?_
  refine gI_RX8_22 (pc := 68) C.1 (h.I 801 t) dX8_give_68 h0 rfl ?_
  refine st_iadd (pc := 71) C.1 dX8_give_71 ?_
  refine st_iload_n (pc := 72) C.1 dX8_give_72 rfl rfl ?_
  refine st_aload_n (pc := 73) C.1 (some t) dX8_give_73 rfl rfl ?_
  refine gI_RX8_158 (pc := 74) C.1 (h.I 809 t) dX8_give_74 h0 rfl ?_
  exact k0

theorem sgX8_give_80 {X : CX} {d mc ms cells slots : Nat} {pp : Option Nat → Hp → Prop} {h : Hp} {t : Nat} {x1 : Int32} {x2 : Int32} {x3 : Int32} {x4 : Int32} {q0 : Nat}  (C : CmR X mX8_give d mc ms pp) (h0 : h.K t = 9) (h1 : h.K q0 = 1) (k0 : At X cells slots 112 [some (va_rf (some t)), some (.int x1), some (.int x2), some (.int x3), some (va_rf (some q0))] [.int x1, .int (h.I 2 q0), va_rf (h.R 800 t)] ((h.sI 809 t ((h.I 809 t) + 1)).sI 812 t ((h.I 812 t) + x1))) : At X cells slots 80 [some (va_rf (some t)), some (.int x1), some (.int x2), some (.int x3), some (.int x4)] [va_rf (some q0)] h := by
  refine sv_astore (pc := 80) (i := 4) C.1 [some (va_rf (some t)), some (.int x1), some (.int x2), some (.int x3), some (va_rf (some q0))] (some q0) dX8_give_80 (Nat.le_of_ble_eq_true rfl) (by rw [C.2.1]; exact Nat.le_of_ble_eq_true rfl) rfl rfl ?_
  refine st_aload_n (pc := 82) C.1 (some t) dX8_give_82 rfl rfl ?_
  refine st_dup (pc := 83) C.1 dX8_give_83 (rf_cat (some t)) ?_
  refine gI_RX8_158 (pc := 84) C.1 (h.I 809 t) dX8_give_84 h0 rfl ?_
  refine st_iconst (pc := 87) (v := 1) C.1 dX8_give_87 (by decide) ?_
  refine st_iadd (pc := 88) C.1 dX8_give_88 ?_
  refine pI_RX8_158 (pc := 89) C.1 dX8_give_89 h0 ?_
  refine st_aload_n (pc := 92) C.1 (some t) dX8_give_92 rfl rfl ?_
  refine st_dup (pc := 93) C.1 dX8_give_93 (rf_cat (some t)) ?_
  refine gI_RX8_164 (pc := 94) C.1 (h.I 812 t) dX8_give_94 h0 rfl ?_
  refine st_iload_n (pc := 97) C.1 dX8_give_97 rfl rfl ?_
  refine st_iadd (pc := 98) C.1 dX8_give_98 ?_
  refine pI_RX8_164 (pc := 99) C.1 dX8_give_99 h0 ?_
  refine st_aload_n (pc := 102) C.1 (some t) dX8_give_102 rfl rfl ?_
  refine gR_RX8_18 (pc := 103) C.1 (h.R 800 t) dX8_give_103 h0 rfl ?_
  refine st_aload (pc := 106) C.1 (some q0) dX8_give_106 rfl ?_
  refine gI_RX8_74 (pc := 108) C.1 (h.I 2 q0) dX8_give_108 h1 rfl ?_
  refine st_iload_n (pc := 111) C.1 dX8_give_111 rfl rfl ?_
  exact k0

theorem sgX8_give_115 {X : CX} {d mc ms cells slots : Nat} {pp : Option Nat → Hp → Prop} {h : Hp} {t : Nat} {x1 : Int32} {x2 : Int32} {x3 : Int32} {o4 : Option Nat}  (C : CmR X mX8_give d mc ms pp) (h0 : h.K t = 9) (k0 : At X cells slots 121 [some (va_rf (some t)), some (.int x1), some (.int x2), some (.int x3), some (va_rf o4)] [va_rf o4, va_rf (h.R 804 t)] h) : At X cells slots 115 [some (va_rf (some t)), some (.int x1), some (.int x2), some (.int x3), some (va_rf o4)] [] h := by
  refine st_aload_n (pc := 115) C.1 (some t) dX8_give_115 rfl rfl ?_
  refine gR_RX8_39 (pc := 116) C.1 (h.R 804 t) dX8_give_116 h0 rfl ?_
  refine st_aload (pc := 119) C.1 o4 dX8_give_119 rfl ?_
  exact k0

theorem sgX8_give_124 {X : CX} {d mc ms cells slots : Nat} {pp : Option Nat → Hp → Prop} {h : Hp} {t : Nat} {x1 : Int32} {x2 : Int32} {x3 : Int32} {o4 : Option Nat}  (C : CmR X mX8_give d mc ms pp) (hc : cells ≤ mc) (hs : slots ≤ ms)  (k0 : pp o4 h) : At X cells slots 124 [some (va_rf (some t)), some (.int x1), some (.int x2), some (.int x3), some (va_rf o4)] [] h := by
  refine st_aload (pc := 124) C.1 o4 dX8_give_124 rfl ?_
  exact rt_a C o4 rfl dX8_give_126 hc hs ⟨_, rfl, k0⟩

theorem clX8_give_2 {X : CX} {d0 mc0 ms0 d mc ms cells slots : Nat} {pp : Option Nat → Hp → Prop} {h : Hp} {ls : List (Option Value)} {rest : List Value} {b : Nat} {a0 : Value} {post : Int32 → Hp → Prop} (C : CmR X mX8_give d0 mc0 ms0 pp) (hct : CtI mX8_needed d mc ms [va_rf (some b), a0] h post) (hK : h.K b = 9) (hdd : d < d0) (hmc : cells + mc ≤ mc0) (hms : slots + ms ≤ ms0) (hcat : (rest.map fun v => v.category).sum ≤ 8) (kk : ∀ r h', post r h' → At X (cells + mc) (slots + ms) 5 ls (.int r :: rest) h') : At X cells slots 2 ls (a0 :: va_rf (some b) :: rest) h :=
  st_callV (pc := 2) (M := mX8_needed) (idx := 220) (As := [a0]) C.1 C.2.2.1 C.2.2.2.2.2.2 ⟨wM_RX8_220, wC_X8_needed, wI_RX8, by decide +kernel, by decide⟩ wV_X8_needed wS_X8_needed (ci := 8) (n := 1) rfl rfl (by decide) dX8_give_2 rfl hdd hcat hK hct hmc hms (fun v h2 hp => by obtain ⟨r, rfl, hp⟩ := hp; exact kk r h2 hp)
theorem clX8_give_11 {X : CX} {d0 mc0 ms0 d mc ms cells slots : Nat} {pp : Option Nat → Hp → Prop} {h : Hp} {ls : List (Option Value)} {rest : List Value} {b : Nat} {a0 : Value} {post : Int32 → Hp → Prop} (C : CmR X mX8_give d0 mc0 ms0 pp) (hct : CtI mX3_find d mc ms [va_rf (some b), a0] h post) (hK : h.K b = 4) (hdd : d < d0) (hmc : cells + mc ≤ mc0) (hms : slots + ms ≤ ms0) (hcat : (rest.map fun v => v.category).sum ≤ 8) (kk : ∀ r h', post r h' → At X (cells + mc) (slots + ms) 14 ls (.int r :: rest) h') : At X cells slots 11 ls (a0 :: va_rf (some b) :: rest) h :=
  st_callV (pc := 11) (M := mX3_find) (idx := 223) (As := [a0]) C.1 C.2.2.1 C.2.2.2.2.2.2 ⟨wM_RX8_223, wC_X3_find, wI_RX3, by decide +kernel, by decide⟩ wV_X3_find wS_X3_find (ci := 3) (n := 1) rfl rfl (by decide) dX8_give_11 rfl hdd hcat hK hct hmc hms (fun v h2 hp => by obtain ⟨r, rfl, hp⟩ := hp; exact kk r h2 hp)
theorem clX8_give_35 {X : CX} {d0 mc0 ms0 d mc ms cells slots : Nat} {pp : Option Nat → Hp → Prop} {h : Hp} {ls : List (Option Value)} {rest : List Value} {b : Nat} {post : Hp → Prop} (C : CmR X mX8_give d0 mc0 ms0 pp) (hct : CtV mX8_letLongestGo d mc ms [va_rf (some b)] h post) (hK : h.K b = 9) (hdd : d < d0) (hmc : cells + mc ≤ mc0) (hms : slots + ms ≤ ms0) (hcat : (rest.map fun v => v.category).sum ≤ 8) (kk : ∀ h', post h' → At X (cells + mc) (slots + ms) 38 ls rest h') : At X cells slots 35 ls (va_rf (some b) :: rest) h :=
  st_callV (pc := 35) (M := mX8_letLongestGo) (idx := 226) (As := []) C.1 C.2.2.1 C.2.2.2.2.2.2 ⟨wM_RX8_226, wC_X8_letLongestGo, wI_RX8, by decide +kernel, by decide⟩ wV_X8_letLongestGo wS_X8_letLongestGo (ci := 8) (n := 0) rfl rfl (by decide) dX8_give_35 rfl hdd hcat hK hct hmc hms (fun v h2 hp => by obtain ⟨rfl, hp⟩ := hp; exact kk h2 hp)
theorem clX8_give_43 {X : CX} {d0 mc0 ms0 d mc ms cells slots : Nat} {pp : Option Nat → Hp → Prop} {h : Hp} {ls : List (Option Value)} {rest : List Value} {b : Nat} {a0 : Value} {post : Int32 → Hp → Prop} (C : CmR X mX8_give d0 mc0 ms0 pp) (hct : CtI mX3_find d mc ms [va_rf (some b), a0] h post) (hK : h.K b = 4) (hdd : d < d0) (hmc : cells + mc ≤ mc0) (hms : slots + ms ≤ ms0) (hcat : (rest.map fun v => v.category).sum ≤ 8) (kk : ∀ r h', post r h' → At X (cells + mc) (slots + ms) 46 ls (.int r :: rest) h') : At X cells slots 43 ls (a0 :: va_rf (some b) :: rest) h :=
  st_callV (pc := 43) (M := mX3_find) (idx := 223) (As := [a0]) C.1 C.2.2.1 C.2.2.2.2.2.2 ⟨wM_RX8_223, wC_X3_find, wI_RX3, by decide +kernel, by decide⟩ wV_X3_find wS_X3_find (ci := 3) (n := 1) rfl rfl (by decide) dX8_give_43 rfl hdd hcat hK hct hmc hms (fun v h2 hp => by obtain ⟨r, rfl, hp⟩ := hp; exact kk r h2 hp)
theorem nwX8_give_60 {X : CX} {d0 mc0 ms0 cells slots : Nat} {pp : Option Nat → Hp → Prop} {h : Hp} {ls : List (Option Value)} {st : List Value} (C : CmR X mX8_give d0 mc0 ms0 pp) (hmc : cells + 1 ≤ mc0) (hms : slots + 9 ≤ ms0) (kk : ∀ q, h.K q = 0 → At X (cells + 1) (slots + 9) 63 ls (va_rf (some q) :: st) (h.nw q 1 0)) : At X cells slots 60 ls st h :=
  st_new (pc := 60) (ci := 0) C.1 rfl gX0 tyX0_ok wK_RX8_75 wN_RX0 wI_RX0 dX8_give_60 (by decide) (by decide) (by rw [C.2.2.1]; exact hmc) (by rw [C.2.2.1]; exact hms) kk
theorem clX8_give_77 {X : CX} {d0 mc0 ms0 d mc ms cells slots : Nat} {pp : Option Nat → Hp → Prop} {h : Hp} {ls : List (Option Value)} {rest : List Value} {b : Nat} {a0 a1 a2 a3 a4 : Value} {post : Hp → Prop} (C : CmR X mX8_give d0 mc0 ms0 pp) (hct : CtV mX0_init d mc ms [va_rf (some b), a0, a1, a2, a3, a4] h post) (hdd : d < d0) (hmc : cells + mc ≤ mc0) (hms : slots + ms ≤ ms0) (hcat : (rest.map fun v => v.category).sum ≤ 8) (kk : ∀ h', post h' → At X (cells + mc) (slots + ms) 80 ls rest h') : At X cells slots 77 ls (a4 :: a3 :: a2 :: a1 :: a0 :: va_rf (some b) :: rest) h :=
  st_callI (pc := 77) (M := mX0_init) (idx := 229) (As := [a0, a1, a2, a3, a4]) C.1 C.2.2.1 C.2.2.2.2.2.2 rfl (n := 5) ⟨wM_RX8_229, wC_X0_init, wI_RX0, by decide +kernel, by decide⟩ wV_X0_init rfl dX8_give_77 rfl hdd hcat hct hmc hms (fun v h2 hp => by obtain ⟨rfl, hp⟩ := hp; exact kk h2 hp)
theorem clX8_give_112 {X : CX} {d0 mc0 ms0 d mc ms cells slots : Nat} {pp : Option Nat → Hp → Prop} {h : Hp} {ls : List (Option Value)} {rest : List Value} {b : Nat} {a0 a1 : Value} {post : Hp → Prop} (C : CmR X mX8_give d0 mc0 ms0 pp) (hct : CtV mX6_clear d mc ms [va_rf (some b), a0, a1] h post) (hK : h.K b = 7) (hdd : d < d0) (hmc : cells + mc ≤ mc0) (hms : slots + ms ≤ ms0) (hcat : (rest.map fun v => v.category).sum ≤ 8) (kk : ∀ h', post h' → At X (cells + mc) (slots + ms) 115 ls rest h') : At X cells slots 112 ls (a1 :: a0 :: va_rf (some b) :: rest) h :=
  st_callV (pc := 112) (M := mX6_clear) (idx := 232) (As := [a0, a1]) C.1 C.2.2.1 C.2.2.2.2.2.2 ⟨wM_RX8_232, wC_X6_clear, wI_RX6, by decide +kernel, by decide⟩ wV_X6_clear wS_X6_clear (ci := 6) (n := 2) rfl rfl (by decide) dX8_give_112 rfl hdd hcat hK hct hmc hms (fun v h2 hp => by obtain ⟨rfl, hp⟩ := hp; exact kk h2 hp)
theorem clX8_give_121 {X : CX} {d0 mc0 ms0 d mc ms cells slots : Nat} {pp : Option Nat → Hp → Prop} {h : Hp} {ls : List (Option Value)} {rest : List Value} {b : Nat} {a0 : Value} {post : Hp → Prop} (C : CmR X mX8_give d0 mc0 ms0 pp) (hct : CtV mX1_enter d mc ms [va_rf (some b), a0] h post) (hK : h.K b = 2) (hdd : d < d0) (hmc : cells + mc ≤ mc0) (hms : slots + ms ≤ ms0) (hcat : (rest.map fun v => v.category).sum ≤ 8) (kk : ∀ h', post h' → At X (cells + mc) (slots + ms) 124 ls rest h') : At X cells slots 121 ls (a0 :: va_rf (some b) :: rest) h :=
  st_callV (pc := 121) (M := mX1_enter) (idx := 235) (As := [a0]) C.1 C.2.2.1 C.2.2.2.2.2.2 ⟨wM_RX8_235, wC_X1_enter, wI_RX1, by decide +kernel, by decide⟩ wV_X1_enter wS_X1_enter (ci := 1) (n := 1) rfl rfl (by decide) dX8_give_121 rfl hdd hcat hK hct hmc hms (fun v h2 hp => by obtain ⟨rfl, hp⟩ := hp; exact kk h2 hp)
theorem sgX8_putIntoQueue_0 {X : CX} {d mc ms cells slots : Nat} {pp : Hp → Prop} {h : Hp} {t : Nat} {b1 : Nat}  (C : CmV X mX8_putIntoQueue d mc ms pp) (h0 : h.K b1 = 1) (h1 : h.K t = 9) (k0 : At X cells slots 33 [some (va_rf (some t)), some (va_rf (some b1)), none] [va_rf (some b1), va_rf (h.R 805 t)] (((h.sI 5 b1 0).sI 810 t ((h.I 810 t) + 1)).sI 812 t ((h.I 812 t) - (h.I 3 b1)))) : At X cells slots 0 [some (va_rf (some t)), some (va_rf (some b1)), none] [] h := by
  refine st_aload_n (pc := 0) C.1 (some b1) dX8_putIntoQueue_0 rfl rfl ?_
  refine st_iconst (pc := 1) (v := 0) C.1 dX8_putIntoQueue_1 (by decide) ?_
  refine pI_RX8_138 (pc := 2) C.1 dX8_putIntoQueue_2 h0 (Or.inl rfl) ?_
  refine st_aload_n (pc := 5) C.1 (some t) dX8_putIntoQueue_5 rfl rfl ?_
  refine st_dup (pc := 6) C.1 dX8_putIntoQueue_6 (rf_cat (some t)) ?_
  refine gI_RX8_161 (pc := 7) C.1 (h.I 810 t) dX8_putIntoQueue_7 h1 rfl ?_
  refine st_iconst (pc := 10) (v := 1) C.1 dX8_putIntoQueue_10 (by decide) ?_
  refine st_iadd (pc := 11) C.1 dX8_putIntoQueue_11 ?_
  refine pI_RX8_161 (pc := 12) C.1 dX8_putIntoQueue_12 h1 ?_
  refine st_aload_n (pc := 15) C.1 (some t) dX8_putIntoQueue_15 rfl rfl ?_
  refine st_dup (pc := 16) C.1 dX8_putIntoQueue_16 (rf_cat (some t)) ?_
  refine gI_RX8_164 (pc := 17) C.1 (h.I 812 t) dX8_putIntoQueue_17 h1 rfl ?_
  refine st_aload_n (pc := 20) C.1 (some b1) dX8_putIntoQueue_20 rfl rfl ?_
  refine gI_RX8_90 (pc := 21) C.1 (h.I 3 b1) dX8_putIntoQueue_21 h0 rfl ?_
  refine st_isub (pc := 24) C.1 dX8_putIntoQueue_24 ?_
  refine pI_RX8_164 (pc := 25) C.1 dX8_putIntoQueue_25 h1 ?_
  refine st_aload_n (pc := 28) C.1 (some t) dX8_putIntoQueue_28 rfl rfl ?_
  refine gR_RX8_46 (pc := 29) C.1 (h.R 805 t) dX8_putIntoQueue_29 h1 rfl ?_
  refine st_aload_n (pc := 32) C.1 (some b1) dX8_putIntoQueue_32 rfl rfl ?_
  exact k0

theorem sgX8_putIntoQueue_36 {X : CX} {d mc ms cells slots : Nat} {pp : Hp → Prop} {h : Hp} {t : Nat} {o1 : Option Nat} {r0 : Nat} (C : CmV X mX8_putIntoQueue d mc ms pp) (h0 : h.K t = 9) (h1 : h.R 805 t = some r0) (h2 : h.K r0 = 8) (k0 : At X cells slots 44 [some (va_rf (some t)), some (va_rf o1), some (.int (h.I 702 r0))] [] h) : At X cells slots 36 [some (va_rf (some t)), some (va_rf o1), none] [] h := by
  refine st_aload_n (pc := 36) C.1 (some t) dX8_putIntoQueue_36 rfl rfl ?_
  refine gR_RX8_46 (pc := 37) C.1 (some r0) dX8_putIntoQueue_37 h0 h1 ?_
  refine gI_RX8_167 (pc := 40) C.1 (h.I 702 r0) dX8_putIntoQueue_40 h2 rfl ?_
  refine sv_istore_n (pc := 43) (i := 2) C.1 [some (va_rf (some t)), some (va_rf o1), some (.int (h.I 702 r0))] dX8_putIntoQueue_43 rfl (Nat.le_of_ble_eq_true rfl) (by rw [C.2.1]; exact Nat.le_of_ble_eq_true rfl) (l1_rf (o := o1) rfl) rfl ?_
  exact k0

theorem sgX8_putIntoQueue_44 {X : CX} {d mc ms cells slots : Nat} {pp : Hp → Prop} {h : Hp} {t : Nat} {o1 : Option Nat} {x2 : Int32} {r0 : Nat} (C : CmV X mX8_putIntoQueue d mc ms pp) (hc : cells ≤ mc) (hs : slots ≤ ms) (h0 : h.K t = 9) (h1 : h.R 805 t = some r0) (h2 : h.K r0 = 8) (k0 : h.I 703 r0 ≤ h.I 802 t → pp h) (k1 : ¬ h.I 703 r0 ≤ h.I 802 t → x2 ≤ 0 → pp h) (k2 : ¬ h.I 703 r0 ≤ h.I 802 t → ¬ x2 ≤ 0 → At X cells slots 63 [some (va_rf (some t)), some (va_rf o1), some (.int x2)] [va_rf (some t)] h) : At X cells slots 44 [some (va_rf (some t)), some (va_rf o1), some (.int x2)] [] h := by
  refine st_aload_n (pc := 44) C.1 (some t) dX8_putIntoQueue_44 rfl rfl ?_
  refine gR_RX8_46 (pc := 45) C.1 (some r0) dX8_putIntoQueue_45 h0 h1 ?_
  refine gI_RX8_170 (pc := 48) C.1 (h.I 703 r0) dX8_putIntoQueue_48 h2 rfl ?_
  refine st_aload_n (pc := 51) C.1 (some t) dX8_putIntoQueue_51 rfl rfl ?_
  refine gI_RX8_26 (pc := 52) C.1 (h.I 802 t) dX8_putIntoQueue_52 h0 rfl ?_
  refine st_icmp_le (pc := 55) (tgt := 72) C.1 dX8_putIntoQueue_55 (by decide) (fun c0 => ?_) (fun c0 => ?_)
  · exact rt_v C rfl dX8_putIntoQueue_72 hc hs ⟨rfl, (k0 c0)⟩
  · refine st_iload_n (pc := 58) C.1 dX8_putIntoQueue_58 rfl rfl ?_
    refine st_if_le (pc := 59) (tgt := 72) C.1 dX8_putIntoQueue_59 (by decide) (fun c1 => ?_) (fun c1 => ?_)
    · exact rt_v C rfl dX8_putIntoQueue_72 hc hs ⟨rfl, (k1 c0 c1)⟩
    · refine st_aload_n (pc := 62) C.1 (some t) dX8_putIntoQueue_62 rfl rfl ?_
      exact (k2 c0 c1)

theorem sgX8_putIntoQueue_66 {X : CX} {d mc ms cells slots : Nat} {pp : Hp → Prop} {h : Hp} {t : Nat} {o1 : Option Nat} {x2 : Int32}  (C : CmV X mX8_putIntoQueue d mc ms pp)  (k0 : At X cells slots 44 [some (va_rf (some t)), some (va_rf o1), some (.int (x2 + (-1)))] [] h) : At X cells slots 66 [some (va_rf (some t)), some (va_rf o1), some (.int x2)] [] h := by
  refine sv_iinc (pc := 66) (i := 2) (v := x2 + (-1)) C.1 [some (va_rf (some t)), some (va_rf o1), some (.int (x2 + (-1)))] dX8_putIntoQueue_66 rfl rfl (by rw [C.2.1]; exact Nat.le_of_ble_eq_true rfl) (l1_rf (o := o1) rfl) rfl ?_
  refine st_goto (pc := 69) (tgt := 44) C.1 dX8_putIntoQueue_69 (by decide) ?_
  exact k0

theorem clX8_putIntoQueue_33 {X : CX} {d0 mc0 ms0 d mc ms cells slots : Nat} {pp : Hp → Prop} {h : Hp} {ls : List (Option Value)} {rest : List Value} {b : Nat} {a0 : Value} {post : Hp → Prop} (C : CmV X mX8_putIntoQueue d0 mc0 ms0 pp) (hct : CtV mX7_add d mc ms [va_rf (some b), a0] h post) (hK : h.K b = 8) (hdd : d < d0) (hmc : cells + mc ≤ mc0) (hms : slots + ms ≤ ms0) (hcat : (rest.map fun v => v.category).sum ≤ 8) (kk : ∀ h', post h' → At X (cells + mc) (slots + ms) 36 ls rest h') : At X cells slots 33 ls (a0 :: va_rf (some b) :: rest) h :=
  st_callV (pc := 33) (M := mX7_add) (idx := 238) (As := [a0]) C.1 C.2.2.1 C.2.2.2.2.2.2 ⟨wM_RX8_238, wC_X7_add, wI_RX7, by decide +kernel, by decide⟩ wV_X7_add wS_X7_add (ci := 7) (n := 1) rfl rfl (by decide) dX8_putIntoQueue_33 rfl hdd hcat hK hct hmc hms (fun v h2 hp => by obtain ⟨rfl, hp⟩ := hp; exact kk h2 hp)
theorem clX8_putIntoQueue_63 {X : CX} {d0 mc0 ms0 d mc ms cells slots : Nat} {pp : Hp → Prop} {h : Hp} {ls : List (Option Value)} {rest : List Value} {b : Nat} {post : Hp → Prop} (C : CmV X mX8_putIntoQueue d0 mc0 ms0 pp) (hct : CtV mX8_letLongestGo d mc ms [va_rf (some b)] h post) (hK : h.K b = 9) (hdd : d < d0) (hmc : cells + mc ≤ mc0) (hms : slots + ms ≤ ms0) (hcat : (rest.map fun v => v.category).sum ≤ 8) (kk : ∀ h', post h' → At X (cells + mc) (slots + ms) 66 ls rest h') : At X cells slots 63 ls (va_rf (some b) :: rest) h :=
  st_callV (pc := 63) (M := mX8_letLongestGo) (idx := 226) (As := []) C.1 C.2.2.1 C.2.2.2.2.2.2 ⟨wM_RX8_226, wC_X8_letLongestGo, wI_RX8, by decide +kernel, by decide⟩ wV_X8_letLongestGo wS_X8_letLongestGo (ci := 8) (n := 0) rfl rfl (by decide) dX8_putIntoQueue_63 rfl hdd hcat hK hct hmc hms (fun v h2 hp => by obtain ⟨rfl, hp⟩ := hp; exact kk h2 hp)
theorem sgX8_letLongestGo_0 {X : CX} {d mc ms cells slots : Nat} {pp : Hp → Prop} {h : Hp} {t : Nat}  (C : CmV X mX8_letLongestGo d mc ms pp) (h0 : h.K t = 9) (k0 : At X cells slots 4 [some (va_rf (some t)), none] [va_rf (h.R 805 t)] h) : At X cells slots 0 [some (va_rf (some t)), none] [] h := by
  refine st_aload_n (pc := 0) C.1 (some t) dX8_letLongestGo_0 rfl rfl ?_
  refine gR_RX8_46 (pc := 1) C.1 (h.R 805 t) dX8_letLongestGo_1 h0 rfl ?_
  exact k0

theorem sgX8_letLongestGo_7 {X : CX} {d mc ms cells slots : Nat} {pp : Hp → Prop} {h : Hp} {t : Nat} {p0 : Option Nat}  (C : CmV X mX8_letLongestGo d mc ms pp) (hc : cells ≤ mc) (hs : slots ≤ ms) (h0 : h.K t = 9) (k0 : ∀ z0 : Nat, p0 = some z0 → At X cells slots 28 [some (va_rf (some t)), some (va_rf (some z0))] [va_rf (some z0), va_rf (h.R 804 t)] (h.sI 811 t ((h.I 811 t) + 1))) (k1 : p0 = none → pp h) : At X cells slots 7 [some (va_rf (some t)), none] [va_rf p0] h := by
  refine sv_astore_n (pc := 7) (i := 1) C.1 [some (va_rf (some t)), some (va_rf p0)] p0 dX8_letLongestGo_7 rfl (Nat.le_of_ble_eq_true rfl) (by rw [C.2.1]; exact Nat.le_of_ble_eq_true rfl) rfl rfl ?_
  refine st_aload_n (pc := 8) C.1 p0 dX8_letLongestGo_8 rfl rfl ?_
  refine st_ifnonnull (pc := 9) (o := p0) (tgt := 13) C.1 dX8_letLongestGo_9 (by decide) (fun z0 c0 => ?_) (fun c0 => ?_)
  · try rw [c0]
    refine st_aload_n (pc := 13) C.1 (some t) dX8_letLongestGo_13 rfl rfl ?_
    refine st_dup (pc := 14) C.1 dX8_letLongestGo_14 (rf_cat (some t)) ?_
    refine gI_RX8_179 (pc := 15) C.1 (h.I 811 t) dX8_letLongestGo_15 h0 rfl ?_
    refine st_iconst (pc := 18) (v := 1) C.1 dX8_letLongestGo_18 (by decide) ?_
    refine st_iadd (pc := 19) C.1 dX8_letLongestGo_19 ?_
    refine pI_RX8_179 (pc := 20) C.1 dX8_letLongestGo_20 h0 ?_
    refine st_aload_n (pc := 23) C.1 (some t) dX8_letLongestGo_23 rfl rfl ?_
    refine gR_RX8_39 (pc := 24) C.1 (h.R 804 t) dX8_letLongestGo_24 h0 rfl ?_
    refine st_aload_n (pc := 27) C.1 (some z0) dX8_letLongestGo_27 rfl rfl ?_
    exact (k0 z0 c0)
  · try rw [c0]
    exact rt_v C rfl dX8_letLongestGo_12 hc hs ⟨rfl, (k1 c0)⟩

theorem sgX8_letLongestGo_31 {X : CX} {d mc ms cells slots : Nat} {pp : Hp → Prop} {h : Hp} {t : Nat} {b1 : Nat}  (C : CmV X mX8_letLongestGo d mc ms pp) (h0 : h.K t = 9) (h1 : h.K b1 = 1) (k0 : At X cells slots 43 [some (va_rf (some t)), some (va_rf (some b1))] [.int (h.I 1 b1), .int (h.I 0 b1), va_rf (h.R 803 t)] h) : At X cells slots 31 [some (va_rf (some t)), some (va_rf (some b1))] [] h := by
  refine st_aload_n (pc := 31) C.1 (some t) dX8_letLongestGo_31 rfl rfl ?_
  refine gR_RX8_32 (pc := 32) C.1 (h.R 803 t) dX8_letLongestGo_32 h0 rfl ?_
  refine st_aload_n (pc := 35) C.1 (some b1) dX8_letLongestGo_35 rfl rfl ?_
  refine gI_RX8_248 (pc := 36) C.1 (h.I 0 b1) dX8_letLongestGo_36 h1 rfl ?_
  refine st_aload_n (pc := 39) C.1 (some b1) dX8_letLongestGo_39 rfl rfl ?_
  refine gI_RX8_132 (pc := 40) C.1 (h.I 1 b1) dX8_letLongestGo_40 h1 rfl ?_
  exact k0

theorem sgX8_letLongestGo_46 {X : CX} {d mc ms cells slots : Nat} {pp : Hp → Prop} {h : Hp} {t : Nat} {o1 : Option Nat}  (C : CmV X mX8_letLongestGo d mc ms pp) (hc : cells ≤ mc) (hs : slots ≤ ms)  (k0 : pp h) : At X cells slots 46 [some (va_rf (some t)), some (va_rf o1)] [] h := by
  exact rt_v C rfl dX8_letLongestGo_46 hc hs ⟨rfl, k0⟩

theorem clX8_letLongestGo_4 {X : CX} {d0 mc0 ms0 d mc ms cells slots : Nat} {pp : Hp → Prop} {h : Hp} {ls : List (Option Value)} {rest : List Value} {b : Nat} {post : Option Nat → Hp → Prop} (C : CmV X mX8_letLongestGo d0 mc0 ms0 pp) (hct : CtR mX7_takeFirst d mc ms [va_rf (some b)] h post) (hK : h.K b = 8) (hdd : d < d0) (hmc : cells + mc ≤ mc0) (hms : slots + ms ≤ ms0) (hcat : (rest.map fun v => v.category).sum ≤ 8) (kk : ∀ o h', post o h' → At X (cells + mc) (slots + ms) 7 ls (va_rf o :: rest) h') : At X cells slots 4 ls (va_rf (some b) :: rest) h :=
  st_callV (pc := 4) (M := mX7_takeFirst) (idx := 241) (As := []) C.1 C.2.2.1 C.2.2.2.2.2.2 ⟨wM_RX8_241, wC_X7_takeFirst, wI_RX7, by decide +kernel, by decide⟩ wV_X7_takeFirst wS_X7_takeFirst (ci := 7) (n := 0) rfl rfl (by decide) dX8_letLongestGo_4 rfl hdd hcat hK hct hmc hms (fun v h2 hp => by obtain ⟨o, rfl, hp⟩ := hp; exact kk o h2 hp)
theorem clX8_letLongestGo_28 {X : CX} {d0 mc0 ms0 d mc ms cells slots : Nat} {pp : Hp → Prop} {h : Hp} {ls : List (Option Value)} {rest : List Value} {b : Nat} {a0 : Value} {post : Hp → Prop} (C : CmV X mX8_letLongestGo d0 mc0 ms0 pp) (hct : CtV mX1_remove d mc ms [va_rf (some b), a0] h post) (hK : h.K b = 2) (hdd : d < d0) (hmc : cells + mc ≤ mc0) (hms : slots + ms ≤ ms0) (hcat : (rest.map fun v => v.category).sum ≤ 8) (kk : ∀ h', post h' → At X (cells + mc) (slots + ms) 31 ls rest h') : At X cells slots 28 ls (a0 :: va_rf (some b) :: rest) h :=
  st_callV (pc := 28) (M := mX1_remove) (idx := 245) (As := [a0]) C.1 C.2.2.1 C.2.2.2.2.2.2 ⟨wM_RX8_245, wC_X1_remove, wI_RX1, by decide +kernel, by decide⟩ wV_X1_remove wS_X1_remove (ci := 1) (n := 1) rfl rfl (by decide) dX8_letLongestGo_28 rfl hdd hcat hK hct hmc hms (fun v h2 hp => by obtain ⟨rfl, hp⟩ := hp; exact kk h2 hp)
theorem clX8_letLongestGo_43 {X : CX} {d0 mc0 ms0 d mc ms cells slots : Nat} {pp : Hp → Prop} {h : Hp} {ls : List (Option Value)} {rest : List Value} {b : Nat} {a0 a1 : Value} {post : Hp → Prop} (C : CmV X mX8_letLongestGo d0 mc0 ms0 pp) (hct : CtV mX3_release d mc ms [va_rf (some b), a0, a1] h post) (hK : h.K b = 4) (hdd : d < d0) (hmc : cells + mc ≤ mc0) (hms : slots + ms ≤ ms0) (hcat : (rest.map fun v => v.category).sum ≤ 8) (kk : ∀ h', post h' → At X (cells + mc) (slots + ms) 46 ls rest h') : At X cells slots 43 ls (a1 :: a0 :: va_rf (some b) :: rest) h :=
  st_callV (pc := 43) (M := mX3_release) (idx := 251) (As := [a0, a1]) C.1 C.2.2.1 C.2.2.2.2.2.2 ⟨wM_RX8_251, wC_X3_release, wI_RX3, by decide +kernel, by decide⟩ wV_X3_release wS_X3_release (ci := 3) (n := 2) rfl rfl (by decide) dX8_letLongestGo_43 rfl hdd hcat hK hct hmc hms (fun v h2 hp => by obtain ⟨rfl, hp⟩ := hp; exact kk h2 hp)
theorem sgX8_keepStartFault_0 {X : CX} {d mc ms cells slots : Nat} {pp : Int32 → Hp → Prop} {h : Hp} {t : Nat} {x1 : Int32}  (C : CmI X mX8_keepStartFault d mc ms pp) (h0 : h.K t = 9) (k0 : At X cells slots 5 [some (va_rf (some t)), some (.int x1), none] [.int x1, va_rf (h.R 804 t)] h) : At X cells slots 0 [some (va_rf (some t)), some (.int x1), none] [] h := by
  refine st_aload_n (pc := 0) C.1 (some t) dX8_keepStartFault_0 rfl rfl ?_
  refine gR_RX8_39 (pc := 1) C.1 (h.R 804 t) dX8_keepStartFault_1 h0 rfl ?_
  refine st_iload_n (pc := 4) C.1 dX8_keepStartFault_4 rfl rfl ?_
  exact k0

theorem sgX8_keepStartFault_8 {X : CX} {d mc ms cells slots : Nat} {pp : Int32 → Hp → Prop} {h : Hp} {t : Nat} {x1 : Int32} {p0 : Option Nat}  (C : CmI X mX8_keepStartFault d mc ms pp) (h0 : h.K t = 9) (k0 : ∀ z0 : Nat, p0 = some z0 → At X cells slots 23 [some (va_rf (some t)), some (.int x1), some (.int 4)] [.int x1, .int 4, va_rf (h.R 807 t)] h) (k1 : p0 = none → At X cells slots 23 [some (va_rf (some t)), some (.int x1), some (.int 5)] [.int x1, .int 5, va_rf (h.R 807 t)] h) : At X cells slots 8 [some (va_rf (some t)), some (.int x1), none] [va_rf p0] h := by
  refine st_ifnonnull (pc := 8) (o := p0) (tgt := 15) C.1 dX8_keepStartFault_8 (by decide) (fun z0 c0 => ?_) (fun c0 => ?_)
  · try rw [c0]
    refine st_iconst (pc := 15) (v := 4) C.1 dX8_keepStartFault_15 (by decide) ?_
    refine sv_istore_n (pc := 16) (i := 2) C.1 [some (va_rf (some t)), some (.int x1), some (.int 4)] dX8_keepStartFault_16 rfl (Nat.le_of_ble_eq_true rfl) (by rw [C.2.1]; exact Nat.le_of_ble_eq_true rfl) rfl rfl ?_
    refine st_aload_n (pc := 17) C.1 (some t) dX8_keepStartFault_17 rfl rfl ?_
    refine gR_RX8_57 (pc := 18) C.1 (h.R 807 t) dX8_keepStartFault_18 h0 rfl ?_
    refine st_iload_n (pc := 21) C.1 dX8_keepStartFault_21 rfl rfl ?_
    refine st_iload_n (pc := 22) C.1 dX8_keepStartFault_22 rfl rfl ?_
    exact (k0 z0 c0)
  · try rw [c0]
    refine st_iconst (pc := 11) (v := 5) C.1 dX8_keepStartFault_11 (by decide) ?_
    refine st_goto (pc := 12) (tgt := 16) C.1 dX8_keepStartFault_12 (by decide) ?_
    refine sv_istore_n (pc := 16) (i := 2) C.1 [some (va_rf (some t)), some (.int x1), some (.int 5)] dX8_keepStartFault_16 rfl (Nat.le_of_ble_eq_true rfl) (by rw [C.2.1]; exact Nat.le_of_ble_eq_true rfl) rfl rfl ?_
    refine st_aload_n (pc := 17) C.1 (some t) dX8_keepStartFault_17 rfl rfl ?_
    refine gR_RX8_57 (pc := 18) C.1 (h.R 807 t) dX8_keepStartFault_18 h0 rfl ?_
    refine st_iload_n (pc := 21) C.1 dX8_keepStartFault_21 rfl rfl ?_
    refine st_iload_n (pc := 22) C.1 dX8_keepStartFault_22 rfl rfl ?_
    exact (k1 c0)

theorem sgX8_keepStartFault_26 {X : CX} {d mc ms cells slots : Nat} {pp : Int32 → Hp → Prop} {h : Hp} {t : Nat} {x1 : Int32} {x2 : Int32}  (C : CmI X mX8_keepStartFault d mc ms pp) (hc : cells ≤ mc) (hs : slots ≤ ms)  (k0 : pp x2 h) : At X cells slots 26 [some (va_rf (some t)), some (.int x1), some (.int x2)] [] h := by
  refine st_iload_n (pc := 26) C.1 dX8_keepStartFault_26 rfl rfl ?_
  exact rt_i C (Or.inl rfl) dX8_keepStartFault_27 hc hs ⟨_, rfl, k0⟩

theorem clX8_keepStartFault_5 {X : CX} {d0 mc0 ms0 d mc ms cells slots : Nat} {pp : Int32 → Hp → Prop} {h : Hp} {ls : List (Option Value)} {rest : List Value} {b : Nat} {a0 : Value} {post : Option Nat → Hp → Prop} (C : CmI X mX8_keepStartFault d0 mc0 ms0 pp) (hct : CtR mX1_startingAt d mc ms [va_rf (some b), a0] h post) (hK : h.K b = 2) (hdd : d < d0) (hmc : cells + mc ≤ mc0) (hms : slots + ms ≤ ms0) (hcat : (rest.map fun v => v.category).sum ≤ 8) (kk : ∀ o h', post o h' → At X (cells + mc) (slots + ms) 8 ls (va_rf o :: rest) h') : At X cells slots 5 ls (a0 :: va_rf (some b) :: rest) h :=
  st_callV (pc := 5) (M := mX1_startingAt) (idx := 254) (As := [a0]) C.1 C.2.2.1 C.2.2.2.2.2.2 ⟨wM_RX8_254, wC_X1_startingAt, wI_RX1, by decide +kernel, by decide⟩ wV_X1_startingAt wS_X1_startingAt (ci := 1) (n := 1) rfl rfl (by decide) dX8_keepStartFault_5 rfl hdd hcat hK hct hmc hms (fun v h2 hp => by obtain ⟨o, rfl, hp⟩ := hp; exact kk o h2 hp)
theorem clX8_keepStartFault_23 {X : CX} {d0 mc0 ms0 d mc ms cells slots : Nat} {pp : Int32 → Hp → Prop} {h : Hp} {ls : List (Option Value)} {rest : List Value} {b : Nat} {a0 a1 : Value} {post : Hp → Prop} (C : CmI X mX8_keepStartFault d0 mc0 ms0 pp) (hct : CtV mX4_keep d mc ms [va_rf (some b), a0, a1] h post) (hK : h.K b = 5) (hdd : d < d0) (hmc : cells + mc ≤ mc0) (hms : slots + ms ≤ ms0) (hcat : (rest.map fun v => v.category).sum ≤ 8) (kk : ∀ h', post h' → At X (cells + mc) (slots + ms) 26 ls rest h') : At X cells slots 23 ls (a1 :: a0 :: va_rf (some b) :: rest) h :=
  st_callV (pc := 23) (M := mX4_keep) (idx := 106) (As := [a0, a1]) C.1 C.2.2.1 C.2.2.2.2.2.2 ⟨wM_RX8_106, wC_X4_keep, wI_RX4, by decide +kernel, by decide⟩ wV_X4_keep wS_X4_keep (ci := 4) (n := 2) rfl rfl (by decide) dX8_keepStartFault_23 rfl hdd hcat hK hct hmc hms (fun v h2 hp => by obtain ⟨rfl, hp⟩ := hp; exact kk h2 hp)
theorem sgX8_keepCopyFault_0 {X : CX} {d mc ms cells slots : Nat} {pp : Int32 → Hp → Prop} {h : Hp} {t : Nat} {x1 : Int32} {x2 : Int32}  (C : CmI X mX8_keepCopyFault d mc ms pp) (h0 : h.K t = 9) (k0 : At X cells slots 9 [some (va_rf (some t)), some (.int x1), some (.int x2)] [.int x1, va_rf (h.R 804 t), va_rf (h.R 807 t)] h) : At X cells slots 0 [some (va_rf (some t)), some (.int x1), some (.int x2)] [] h := by
  refine st_aload_n (pc := 0) C.1 (some t) dX8_keepCopyFault_0 rfl rfl ?_
  refine gR_RX8_57 (pc := 1) C.1 (h.R 807 t) dX8_keepCopyFault_1 h0 rfl ?_
  refine st_aload_n (pc := 4) C.1 (some t) dX8_keepCopyFault_4 rfl rfl ?_
  refine gR_RX8_39 (pc := 5) C.1 (h.R 804 t) dX8_keepCopyFault_5 h0 rfl ?_
  refine st_iload_n (pc := 8) C.1 dX8_keepCopyFault_8 rfl rfl ?_
  exact k0

theorem sgX8_keepCopyFault_12 {X : CX} {d mc ms cells slots : Nat} {pp : Int32 → Hp → Prop} {h : Hp} {t : Nat} {x1 : Int32} {x2 : Int32} {u0 : Int32} {p1 : Option Nat}  (C : CmI X mX8_keepCopyFault d mc ms pp)  (k0 : At X cells slots 13 [some (va_rf (some t)), some (.int x1), some (.int x2)] [.int x1, .int u0, va_rf p1] h) : At X cells slots 12 [some (va_rf (some t)), some (.int x1), some (.int x2)] [.int u0, va_rf p1] h := by
  refine st_iload_n (pc := 12) C.1 dX8_keepCopyFault_12 rfl rfl ?_
  exact k0

theorem sgX8_keepCopyFault_16 {X : CX} {d mc ms cells slots : Nat} {pp : Int32 → Hp → Prop} {h : Hp} {t : Nat} {x1 : Int32} {x2 : Int32}  (C : CmI X mX8_keepCopyFault d mc ms pp) (hc : cells ≤ mc) (hs : slots ≤ ms)  (k0 : pp ((-2) - x2) h) : At X cells slots 16 [some (va_rf (some t)), some (.int x1), some (.int x2)] [] h := by
  refine st_bipush (pc := 16) (v := (-2)) C.1 dX8_keepCopyFault_16 (by decide) ?_
  refine st_iload_n (pc := 18) C.1 dX8_keepCopyFault_18 rfl rfl ?_
  refine st_isub (pc := 19) C.1 dX8_keepCopyFault_19 ?_
  exact rt_i C (Or.inl rfl) dX8_keepCopyFault_20 hc hs ⟨_, rfl, k0⟩

theorem clX8_keepCopyFault_9 {X : CX} {d0 mc0 ms0 d mc ms cells slots : Nat} {pp : Int32 → Hp → Prop} {h : Hp} {ls : List (Option Value)} {rest : List Value} {b : Nat} {a0 : Value} {post : Int32 → Hp → Prop} (C : CmI X mX8_keepCopyFault d0 mc0 ms0 pp) (hct : CtI mX1_sortOf d mc ms [va_rf (some b), a0] h post) (hK : h.K b = 2) (hdd : d < d0) (hmc : cells + mc ≤ mc0) (hms : slots + ms ≤ ms0) (hcat : (rest.map fun v => v.category).sum ≤ 8) (kk : ∀ r h', post r h' → At X (cells + mc) (slots + ms) 12 ls (.int r :: rest) h') : At X cells slots 9 ls (a0 :: va_rf (some b) :: rest) h :=
  st_callV (pc := 9) (M := mX1_sortOf) (idx := 103) (As := [a0]) C.1 C.2.2.1 C.2.2.2.2.2.2 ⟨wM_RX8_103, wC_X1_sortOf, wI_RX1, by decide +kernel, by decide⟩ wV_X1_sortOf wS_X1_sortOf (ci := 1) (n := 1) rfl rfl (by decide) dX8_keepCopyFault_9 rfl hdd hcat hK hct hmc hms (fun v h2 hp => by obtain ⟨r, rfl, hp⟩ := hp; exact kk r h2 hp)
theorem clX8_keepCopyFault_13 {X : CX} {d0 mc0 ms0 d mc ms cells slots : Nat} {pp : Int32 → Hp → Prop} {h : Hp} {ls : List (Option Value)} {rest : List Value} {b : Nat} {a0 a1 : Value} {post : Hp → Prop} (C : CmI X mX8_keepCopyFault d0 mc0 ms0 pp) (hct : CtV mX4_keep d mc ms [va_rf (some b), a0, a1] h post) (hK : h.K b = 5) (hdd : d < d0) (hmc : cells + mc ≤ mc0) (hms : slots + ms ≤ ms0) (hcat : (rest.map fun v => v.category).sum ≤ 8) (kk : ∀ h', post h' → At X (cells + mc) (slots + ms) 16 ls rest h') : At X cells slots 13 ls (a1 :: a0 :: va_rf (some b) :: rest) h :=
  st_callV (pc := 13) (M := mX4_keep) (idx := 106) (As := [a0, a1]) C.1 C.2.2.1 C.2.2.2.2.2.2 ⟨wM_RX8_106, wC_X4_keep, wI_RX4, by decide +kernel, by decide⟩ wV_X4_keep wS_X4_keep (ci := 4) (n := 2) rfl rfl (by decide) dX8_keepCopyFault_13 rfl hdd hcat hK hct hmc hms (fun v h2 hp => by obtain ⟨rfl, hp⟩ := hp; exact kk h2 hp)
