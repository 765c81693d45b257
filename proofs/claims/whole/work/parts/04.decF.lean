theorem dF_init_0 : decode cF_init 0 = .ok (.aload_n 0, 1) := by decide +kernel
theorem dF_init_1 : decode cF_init 1 = .ok (.invokespecial 3, 3) := by decide +kernel
theorem dF_init_4 : decode cF_init 4 = .ok (.aload_n 0, 1) := by decide +kernel
theorem dF_init_5 : decode cF_init 5 = .ok (.iload_n 1, 1) := by decide +kernel
theorem dF_init_6 : decode cF_init 6 = .ok (.newarray .int, 2) := by decide +kernel
theorem dF_init_8 : decode cF_init 8 = .ok (.putfield 9, 3) := by decide +kernel
theorem dF_init_11 : decode cF_init 11 = .ok (.aload_n 0, 1) := by decide +kernel
theorem dF_init_12 : decode cF_init 12 = .ok (.iload_n 1, 1) := by decide +kernel
theorem dF_init_13 : decode cF_init 13 = .ok (.newarray .int, 2) := by decide +kernel
theorem dF_init_15 : decode cF_init 15 = .ok (.putfield 15, 3) := by decide +kernel
theorem dF_init_18 : decode cF_init 18 = .ok (.aload_n 0, 1) := by decide +kernel
theorem dF_init_19 : decode cF_init 19 = .ok (.getfield 15, 3) := by decide +kernel
theorem dF_init_22 : decode cF_init 22 = .ok (.iconst 0, 1) := by decide +kernel
theorem dF_init_23 : decode cF_init 23 = .ok (.iload_n 1, 1) := by decide +kernel
theorem dF_init_24 : decode cF_init 24 = .ok (.iastore, 1) := by decide +kernel
theorem dF_init_25 : decode cF_init 25 = .ok (.aload_n 0, 1) := by decide +kernel
theorem dF_init_26 : decode cF_init 26 = .ok (.iconst 1, 1) := by decide +kernel
theorem dF_init_27 : decode cF_init 27 = .ok (.putfield 18, 3) := by decide +kernel
theorem dF_init_30 : decode cF_init 30 = .ok (.return_, 1) := by decide +kernel
theorem dF_add_0 : decode cF_add 0 = .ok (.aload_n 0, 1) := by decide +kernel
theorem dF_add_1 : decode cF_add 1 = .ok (.getfield 9, 3) := by decide +kernel
theorem dF_add_4 : decode cF_add 4 = .ok (.aload_n 0, 1) := by decide +kernel
theorem dF_add_5 : decode cF_add 5 = .ok (.getfield 18, 3) := by decide +kernel
theorem dF_add_8 : decode cF_add 8 = .ok (.iload_n 1, 1) := by decide +kernel
theorem dF_add_9 : decode cF_add 9 = .ok (.iastore, 1) := by decide +kernel
theorem dF_add_10 : decode cF_add 10 = .ok (.aload_n 0, 1) := by decide +kernel
theorem dF_add_11 : decode cF_add 11 = .ok (.getfield 15, 3) := by decide +kernel
theorem dF_add_14 : decode cF_add 14 = .ok (.aload_n 0, 1) := by decide +kernel
theorem dF_add_15 : decode cF_add 15 = .ok (.getfield 18, 3) := by decide +kernel
theorem dF_add_18 : decode cF_add 18 = .ok (.iload_n 2, 1) := by decide +kernel
theorem dF_add_19 : decode cF_add 19 = .ok (.iastore, 1) := by decide +kernel
theorem dF_add_20 : decode cF_add 20 = .ok (.aload_n 0, 1) := by decide +kernel
theorem dF_add_21 : decode cF_add 21 = .ok (.dup, 1) := by decide +kernel
theorem dF_add_22 : decode cF_add 22 = .ok (.getfield 18, 3) := by decide +kernel
theorem dF_add_25 : decode cF_add 25 = .ok (.iconst 1, 1) := by decide +kernel
theorem dF_add_26 : decode cF_add 26 = .ok (.iadd, 1) := by decide +kernel
theorem dF_add_27 : decode cF_add 27 = .ok (.putfield 18, 3) := by decide +kernel
theorem dF_add_30 : decode cF_add 30 = .ok (.return_, 1) := by decide +kernel
theorem dF_clear_0 : decode cF_clear 0 = .ok (.aload_n 0, 1) := by decide +kernel
theorem dF_clear_1 : decode cF_clear 1 = .ok (.iconst 0, 1) := by decide +kernel
theorem dF_clear_2 : decode cF_clear 2 = .ok (.putfield 18, 3) := by decide +kernel
theorem dF_clear_5 : decode cF_clear 5 = .ok (.return_, 1) := by decide +kernel
theorem dF_take_0 : decode cF_take 0 = .ok (.aload_n 0, 1) := by decide +kernel
theorem dF_take_1 : decode cF_take 1 = .ok (.iload_n 1, 1) := by decide +kernel
theorem dF_take_2 : decode cF_take 2 = .ok (.invokevirtual 22, 3) := by decide +kernel
theorem dF_take_5 : decode cF_take 5 = .ok (.istore_n 2, 1) := by decide +kernel
theorem dF_take_6 : decode cF_take 6 = .ok (.iload_n 2, 1) := by decide +kernel
theorem dF_take_7 : decode cF_take 7 = .ok (.iconst (-1), 1) := by decide +kernel
theorem dF_take_8 : decode cF_take 8 = .ok (.if_icmp .ne 5, 3) := by decide +kernel
theorem dF_take_11 : decode cF_take 11 = .ok (.iconst (-1), 1) := by decide +kernel
theorem dF_take_12 : decode cF_take 12 = .ok (.ireturn, 1) := by decide +kernel
theorem dF_take_13 : decode cF_take 13 = .ok (.aload_n 0, 1) := by decide +kernel
theorem dF_take_14 : decode cF_take 14 = .ok (.getfield 9, 3) := by decide +kernel
theorem dF_take_17 : decode cF_take 17 = .ok (.iload_n 2, 1) := by decide +kernel
theorem dF_take_18 : decode cF_take 18 = .ok (.iaload, 1) := by decide +kernel
theorem dF_take_19 : decode cF_take 19 = .ok (.istore_n 3, 1) := by decide +kernel
theorem dF_take_20 : decode cF_take 20 = .ok (.aload_n 0, 1) := by decide +kernel
theorem dF_take_21 : decode cF_take 21 = .ok (.getfield 15, 3) := by decide +kernel
theorem dF_take_24 : decode cF_take 24 = .ok (.iload_n 2, 1) := by decide +kernel
theorem dF_take_25 : decode cF_take 25 = .ok (.iaload, 1) := by decide +kernel
theorem dF_take_26 : decode cF_take 26 = .ok (.iload_n 1, 1) := by decide +kernel
theorem dF_take_27 : decode cF_take 27 = .ok (.isub, 1) := by decide +kernel
theorem dF_take_28 : decode cF_take 28 = .ok (.istore 4, 2) := by decide +kernel
theorem dF_take_30 : decode cF_take 30 = .ok (.aload_n 0, 1) := by decide +kernel
theorem dF_take_31 : decode cF_take 31 = .ok (.iload_n 2, 1) := by decide +kernel
theorem dF_take_32 : decode cF_take 32 = .ok (.invokevirtual 26, 3) := by decide +kernel
theorem dF_take_35 : decode cF_take 35 = .ok (.iload 4, 2) := by decide +kernel
theorem dF_take_37 : decode cF_take 37 = .ok (.ifCond .le 12, 3) := by decide +kernel
theorem dF_take_40 : decode cF_take 40 = .ok (.aload_n 0, 1) := by decide +kernel
theorem dF_take_41 : decode cF_take 41 = .ok (.iload_n 3, 1) := by decide +kernel
theorem dF_take_42 : decode cF_take 42 = .ok (.iload_n 1, 1) := by decide +kernel
theorem dF_take_43 : decode cF_take 43 = .ok (.iadd, 1) := by decide +kernel
theorem dF_take_44 : decode cF_take 44 = .ok (.iload 4, 2) := by decide +kernel
theorem dF_take_46 : decode cF_take 46 = .ok (.invokevirtual 30, 3) := by decide +kernel
theorem dF_take_49 : decode cF_take 49 = .ok (.iload_n 3, 1) := by decide +kernel
theorem dF_take_50 : decode cF_take 50 = .ok (.ireturn, 1) := by decide +kernel
theorem dF_bestFor_0 : decode cF_bestFor 0 = .ok (.iconst (-1), 1) := by decide +kernel
theorem dF_bestFor_1 : decode cF_bestFor 1 = .ok (.istore_n 2, 1) := by decide +kernel
theorem dF_bestFor_2 : decode cF_bestFor 2 = .ok (.aload_n 0, 1) := by decide +kernel
theorem dF_bestFor_3 : decode cF_bestFor 3 = .ok (.getfield 18, 3) := by decide +kernel
theorem dF_bestFor_6 : decode cF_bestFor 6 = .ok (.iconst 1, 1) := by decide +kernel
theorem dF_bestFor_7 : decode cF_bestFor 7 = .ok (.isub, 1) := by decide +kernel
theorem dF_bestFor_8 : decode cF_bestFor 8 = .ok (.istore_n 3, 1) := by decide +kernel
theorem dF_bestFor_9 : decode cF_bestFor 9 = .ok (.iload_n 3, 1) := by decide +kernel
theorem dF_bestFor_10 : decode cF_bestFor 10 = .ok (.ifCond .lt 41, 3) := by decide +kernel
theorem dF_bestFor_13 : decode cF_bestFor 13 = .ok (.aload_n 0, 1) := by decide +kernel
theorem dF_bestFor_14 : decode cF_bestFor 14 = .ok (.getfield 15, 3) := by decide +kernel
theorem dF_bestFor_17 : decode cF_bestFor 17 = .ok (.iload_n 3, 1) := by decide +kernel
theorem dF_bestFor_18 : decode cF_bestFor 18 = .ok (.iaload, 1) := by decide +kernel
theorem dF_bestFor_19 : decode cF_bestFor 19 = .ok (.iload_n 1, 1) := by decide +kernel
theorem dF_bestFor_20 : decode cF_bestFor 20 = .ok (.if_icmp .lt 25, 3) := by decide +kernel
theorem dF_bestFor_23 : decode cF_bestFor 23 = .ok (.iload_n 2, 1) := by decide +kernel
theorem dF_bestFor_24 : decode cF_bestFor 24 = .ok (.iconst (-1), 1) := by decide +kernel
theorem dF_bestFor_25 : decode cF_bestFor 25 = .ok (.if_icmp .eq 18, 3) := by decide +kernel
theorem dF_bestFor_28 : decode cF_bestFor 28 = .ok (.aload_n 0, 1) := by decide +kernel
theorem dF_bestFor_29 : decode cF_bestFor 29 = .ok (.getfield 15, 3) := by decide +kernel
theorem dF_bestFor_32 : decode cF_bestFor 32 = .ok (.iload_n 3, 1) := by decide +kernel
theorem dF_bestFor_33 : decode cF_bestFor 33 = .ok (.iaload, 1) := by decide +kernel
theorem dF_bestFor_34 : decode cF_bestFor 34 = .ok (.aload_n 0, 1) := by decide +kernel
theorem dF_bestFor_35 : decode cF_bestFor 35 = .ok (.getfield 15, 3) := by decide +kernel
theorem dF_bestFor_38 : decode cF_bestFor 38 = .ok (.iload_n 2, 1) := by decide +kernel
theorem dF_bestFor_39 : decode cF_bestFor 39 = .ok (.iaload, 1) := by decide +kernel
theorem dF_bestFor_40 : decode cF_bestFor 40 = .ok (.if_icmp .ge 5, 3) := by decide +kernel
theorem dF_bestFor_43 : decode cF_bestFor 43 = .ok (.iload_n 3, 1) := by decide +kernel
theorem dF_bestFor_44 : decode cF_bestFor 44 = .ok (.istore_n 2, 1) := by decide +kernel
theorem dF_bestFor_45 : decode cF_bestFor 45 = .ok (.iinc 3 (-1), 3) := by decide +kernel
theorem dF_bestFor_48 : decode cF_bestFor 48 = .ok (.goto (-39), 3) := by decide +kernel
theorem dF_bestFor_51 : decode cF_bestFor 51 = .ok (.iload_n 2, 1) := by decide +kernel
theorem dF_bestFor_52 : decode cF_bestFor 52 = .ok (.ireturn, 1) := by decide +kernel
theorem dF_remove_0 : decode cF_remove 0 = .ok (.aload_n 0, 1) := by decide +kernel
theorem dF_remove_1 : decode cF_remove 1 = .ok (.dup, 1) := by decide +kernel
theorem dF_remove_2 : decode cF_remove 2 = .ok (.getfield 18, 3) := by decide +kernel
theorem dF_remove_5 : decode cF_remove 5 = .ok (.iconst 1, 1) := by decide +kernel
theorem dF_remove_6 : decode cF_remove 6 = .ok (.isub, 1) := by decide +kernel
theorem dF_remove_7 : decode cF_remove 7 = .ok (.putfield 18, 3) := by decide +kernel
theorem dF_remove_10 : decode cF_remove 10 = .ok (.aload_n 0, 1) := by decide +kernel
theorem dF_remove_11 : decode cF_remove 11 = .ok (.getfield 9, 3) := by decide +kernel
theorem dF_remove_14 : decode cF_remove 14 = .ok (.iload_n 1, 1) := by decide +kernel
theorem dF_remove_15 : decode cF_remove 15 = .ok (.iconst 1, 1) := by decide +kernel
theorem dF_remove_16 : decode cF_remove 16 = .ok (.iadd, 1) := by decide +kernel
theorem dF_remove_17 : decode cF_remove 17 = .ok (.aload_n 0, 1) := by decide +kernel
theorem dF_remove_18 : decode cF_remove 18 = .ok (.getfield 9, 3) := by decide +kernel
theorem dF_remove_21 : decode cF_remove 21 = .ok (.iload_n 1, 1) := by decide +kernel
theorem dF_remove_22 : decode cF_remove 22 = .ok (.aload_n 0, 1) := by decide +kernel
theorem dF_remove_23 : decode cF_remove 23 = .ok (.getfield 18, 3) := by decide +kernel
theorem dF_remove_26 : decode cF_remove 26 = .ok (.iload_n 1, 1) := by decide +kernel
theorem dF_remove_27 : decode cF_remove 27 = .ok (.isub, 1) := by decide +kernel
theorem dF_remove_28 : decode cF_remove 28 = .ok (.invokestatic 34, 3) := by decide +kernel
theorem dF_remove_31 : decode cF_remove 31 = .ok (.aload_n 0, 1) := by decide +kernel
theorem dF_remove_32 : decode cF_remove 32 = .ok (.getfield 15, 3) := by decide +kernel
theorem dF_remove_35 : decode cF_remove 35 = .ok (.iload_n 1, 1) := by decide +kernel
theorem dF_remove_36 : decode cF_remove 36 = .ok (.iconst 1, 1) := by decide +kernel
theorem dF_remove_37 : decode cF_remove 37 = .ok (.iadd, 1) := by decide +kernel
theorem dF_remove_38 : decode cF_remove 38 = .ok (.aload_n 0, 1) := by decide +kernel
theorem dF_remove_39 : decode cF_remove 39 = .ok (.getfield 15, 3) := by decide +kernel
theorem dF_remove_42 : decode cF_remove 42 = .ok (.iload_n 1, 1) := by decide +kernel
theorem dF_remove_43 : decode cF_remove 43 = .ok (.aload_n 0, 1) := by decide +kernel
theorem dF_remove_44 : decode cF_remove 44 = .ok (.getfield 18, 3) := by decide +kernel
theorem dF_remove_47 : decode cF_remove 47 = .ok (.iload_n 1, 1) := by decide +kernel
theorem dF_remove_48 : decode cF_remove 48 = .ok (.isub, 1) := by decide +kernel
theorem dF_remove_49 : decode cF_remove 49 = .ok (.invokestatic 34, 3) := by decide +kernel
theorem dF_remove_52 : decode cF_remove 52 = .ok (.return_, 1) := by decide +kernel
theorem dF_ofSize_0 : decode cF_ofSize 0 = .ok (.iconst 0, 1) := by decide +kernel
theorem dF_ofSize_1 : decode cF_ofSize 1 = .ok (.istore_n 2, 1) := by decide +kernel
theorem dF_ofSize_2 : decode cF_ofSize 2 = .ok (.iconst 0, 1) := by decide +kernel
theorem dF_ofSize_3 : decode cF_ofSize 3 = .ok (.istore_n 3, 1) := by decide +kernel
theorem dF_ofSize_4 : decode cF_ofSize 4 = .ok (.iload_n 3, 1) := by decide +kernel
theorem dF_ofSize_5 : decode cF_ofSize 5 = .ok (.aload_n 0, 1) := by decide +kernel
theorem dF_ofSize_6 : decode cF_ofSize 6 = .ok (.getfield 18, 3) := by decide +kernel
theorem dF_ofSize_9 : decode cF_ofSize 9 = .ok (.if_icmp .ge 22, 3) := by decide +kernel
theorem dF_ofSize_12 : decode cF_ofSize 12 = .ok (.aload_n 0, 1) := by decide +kernel
theorem dF_ofSize_13 : decode cF_ofSize 13 = .ok (.getfield 15, 3) := by decide +kernel
theorem dF_ofSize_16 : decode cF_ofSize 16 = .ok (.iload_n 3, 1) := by decide +kernel
theorem dF_ofSize_17 : decode cF_ofSize 17 = .ok (.iaload, 1) := by decide +kernel
theorem dF_ofSize_18 : decode cF_ofSize 18 = .ok (.iload_n 1, 1) := by decide +kernel
theorem dF_ofSize_19 : decode cF_ofSize 19 = .ok (.if_icmp .ne 6, 3) := by decide +kernel
theorem dF_ofSize_22 : decode cF_ofSize 22 = .ok (.iinc 2 1, 3) := by decide +kernel
theorem dF_ofSize_25 : decode cF_ofSize 25 = .ok (.iinc 3 1, 3) := by decide +kernel
theorem dF_ofSize_28 : decode cF_ofSize 28 = .ok (.goto (-24), 3) := by decide +kernel
theorem dF_ofSize_31 : decode cF_ofSize 31 = .ok (.iload_n 2, 1) := by decide +kernel
theorem dF_ofSize_32 : decode cF_ofSize 32 = .ok (.ireturn, 1) := by decide +kernel
theorem dF_allWords_0 : decode cF_allWords 0 = .ok (.iconst 0, 1) := by decide +kernel
theorem dF_allWords_1 : decode cF_allWords 1 = .ok (.istore_n 1, 1) := by decide +kernel
theorem dF_allWords_2 : decode cF_allWords 2 = .ok (.iconst 0, 1) := by decide +kernel
theorem dF_allWords_3 : decode cF_allWords 3 = .ok (.istore_n 2, 1) := by decide +kernel
theorem dF_allWords_4 : decode cF_allWords 4 = .ok (.iload_n 2, 1) := by decide +kernel
theorem dF_allWords_5 : decode cF_allWords 5 = .ok (.aload_n 0, 1) := by decide +kernel
theorem dF_allWords_6 : decode cF_allWords 6 = .ok (.getfield 18, 3) := by decide +kernel
theorem dF_allWords_9 : decode cF_allWords 9 = .ok (.if_icmp .ge 18, 3) := by decide +kernel
theorem dF_allWords_12 : decode cF_allWords 12 = .ok (.iload_n 1, 1) := by decide +kernel
theorem dF_allWords_13 : decode cF_allWords 13 = .ok (.aload_n 0, 1) := by decide +kernel
theorem dF_allWords_14 : decode cF_allWords 14 = .ok (.getfield 15, 3) := by decide +kernel
theorem dF_allWords_17 : decode cF_allWords 17 = .ok (.iload_n 2, 1) := by decide +kernel
theorem dF_allWords_18 : decode cF_allWords 18 = .ok (.iaload, 1) := by decide +kernel
theorem dF_allWords_19 : decode cF_allWords 19 = .ok (.iadd, 1) := by decide +kernel
theorem dF_allWords_20 : decode cF_allWords 20 = .ok (.istore_n 1, 1) := by decide +kernel
theorem dF_allWords_21 : decode cF_allWords 21 = .ok (.iinc 2 1, 3) := by decide +kernel
theorem dF_allWords_24 : decode cF_allWords 24 = .ok (.goto (-20), 3) := by decide +kernel
theorem dF_allWords_27 : decode cF_allWords 27 = .ok (.iload_n 1, 1) := by decide +kernel
theorem dF_allWords_28 : decode cF_allWords 28 = .ok (.ireturn, 1) := by decide +kernel
