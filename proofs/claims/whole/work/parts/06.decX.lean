theorem dX_init_0 : decode cX_init 0 = .ok (.aload_n 0, 1) := by decide +kernel
theorem dX_init_1 : decode cX_init 1 = .ok (.invokespecial 1, 3) := by decide +kernel
theorem dX_init_4 : decode cX_init 4 = .ok (.bipush 16, 2) := by decide +kernel
theorem dX_init_6 : decode cX_init 6 = .ok (.sipush 400, 3) := by decide +kernel
theorem dX_init_9 : decode cX_init 9 = .ok (.iload_n 1, 1) := by decide +kernel
theorem dX_init_10 : decode cX_init 10 = .ok (.invokestatic 9, 3) := by decide +kernel
theorem dX_init_13 : decode cX_init 13 = .ok (.invokestatic 15, 3) := by decide +kernel
theorem dX_init_16 : decode cX_init 16 = .ok (.istore_n 3, 1) := by decide +kernel
theorem dX_init_17 : decode cX_init 17 = .ok (.iconst 2, 1) := by decide +kernel
theorem dX_init_18 : decode cX_init 18 = .ok (.bipush 40, 2) := by decide +kernel
theorem dX_init_20 : decode cX_init 20 = .ok (.iload_n 2, 1) := by decide +kernel
theorem dX_init_21 : decode cX_init 21 = .ok (.invokestatic 9, 3) := by decide +kernel
theorem dX_init_24 : decode cX_init 24 = .ok (.invokestatic 15, 3) := by decide +kernel
theorem dX_init_27 : decode cX_init 27 = .ok (.istore 4, 2) := by decide +kernel
theorem dX_init_29 : decode cX_init 29 = .ok (.aload_n 0, 1) := by decide +kernel
theorem dX_init_30 : decode cX_init 30 = .ok (.iload_n 3, 1) := by decide +kernel
theorem dX_init_31 : decode cX_init 31 = .ok (.newarray .int, 2) := by decide +kernel
theorem dX_init_33 : decode cX_init 33 = .ok (.putfield 18, 3) := by decide +kernel
theorem dX_init_36 : decode cX_init 36 = .ok (.aload_n 0, 1) := by decide +kernel
theorem dX_init_37 : decode cX_init 37 = .ok (.iload 4, 2) := by decide +kernel
theorem dX_init_39 : decode cX_init 39 = .ok (.iconst 1, 1) := by decide +kernel
theorem dX_init_40 : decode cX_init 40 = .ok (.iadd, 1) := by decide +kernel
theorem dX_init_41 : decode cX_init 41 = .ok (.newarray .int, 2) := by decide +kernel
theorem dX_init_43 : decode cX_init 43 = .ok (.putfield 22, 3) := by decide +kernel
theorem dX_init_46 : decode cX_init 46 = .ok (.aload_n 0, 1) := by decide +kernel
theorem dX_init_47 : decode cX_init 47 = .ok (.iload 4, 2) := by decide +kernel
theorem dX_init_49 : decode cX_init 49 = .ok (.iconst 1, 1) := by decide +kernel
theorem dX_init_50 : decode cX_init 50 = .ok (.iadd, 1) := by decide +kernel
theorem dX_init_51 : decode cX_init 51 = .ok (.newarray .int, 2) := by decide +kernel
theorem dX_init_53 : decode cX_init 53 = .ok (.putfield 25, 3) := by decide +kernel
theorem dX_init_56 : decode cX_init 56 = .ok (.aload_n 0, 1) := by decide +kernel
theorem dX_init_57 : decode cX_init 57 = .ok (.bipush 8, 2) := by decide +kernel
theorem dX_init_59 : decode cX_init 59 = .ok (.newarray .int, 2) := by decide +kernel
theorem dX_init_61 : decode cX_init 61 = .ok (.putfield 28, 3) := by decide +kernel
theorem dX_init_64 : decode cX_init 64 = .ok (.aload_n 0, 1) := by decide +kernel
theorem dX_init_65 : decode cX_init 65 = .ok (.new 31, 3) := by decide +kernel
theorem dX_init_68 : decode cX_init 68 = .ok (.dup, 1) := by decide +kernel
theorem dX_init_69 : decode cX_init 69 = .ok (.iload_n 3, 1) := by decide +kernel
theorem dX_init_70 : decode cX_init 70 = .ok (.invokespecial 33, 3) := by decide +kernel
theorem dX_init_73 : decode cX_init 73 = .ok (.putfield 36, 3) := by decide +kernel
theorem dX_init_76 : decode cX_init 76 = .ok (.aload_n 0, 1) := by decide +kernel
theorem dX_init_77 : decode cX_init 77 = .ok (.iload 4, 2) := by decide +kernel
theorem dX_init_79 : decode cX_init 79 = .ok (.iconst 1, 1) := by decide +kernel
theorem dX_init_80 : decode cX_init 80 = .ok (.iadd, 1) := by decide +kernel
theorem dX_init_81 : decode cX_init 81 = .ok (.newarray .boolean, 2) := by decide +kernel
theorem dX_init_83 : decode cX_init 83 = .ok (.putfield 40, 3) := by decide +kernel
theorem dX_init_86 : decode cX_init 86 = .ok (.aload_n 0, 1) := by decide +kernel
theorem dX_init_87 : decode cX_init 87 = .ok (.iload 4, 2) := by decide +kernel
theorem dX_init_89 : decode cX_init 89 = .ok (.newarray .int, 2) := by decide +kernel
theorem dX_init_91 : decode cX_init 91 = .ok (.putfield 44, 3) := by decide +kernel
theorem dX_init_94 : decode cX_init 94 = .ok (.aload_n 0, 1) := by decide +kernel
theorem dX_init_95 : decode cX_init 95 = .ok (.iconst 0, 1) := by decide +kernel
theorem dX_init_96 : decode cX_init 96 = .ok (.putfield 47, 3) := by decide +kernel
theorem dX_init_99 : decode cX_init 99 = .ok (.aload_n 0, 1) := by decide +kernel
theorem dX_init_100 : decode cX_init 100 = .ok (.getfield 22, 3) := by decide +kernel
theorem dX_init_103 : decode cX_init 103 = .ok (.iconst (-1), 1) := by decide +kernel
theorem dX_init_104 : decode cX_init 104 = .ok (.invokestatic 51, 3) := by decide +kernel
theorem dX_init_107 : decode cX_init 107 = .ok (.return_, 1) := by decide +kernel
theorem dX_instantiate_0 : decode cX_instantiate 0 = .ok (.iload_n 1, 1) := by decide +kernel
theorem dX_instantiate_1 : decode cX_instantiate 1 = .ok (.invokestatic 57, 3) := by decide +kernel
theorem dX_instantiate_4 : decode cX_instantiate 4 = .ok (.ifCond .ne 11, 3) := by decide +kernel
theorem dX_instantiate_7 : decode cX_instantiate 7 = .ok (.new 61, 3) := by decide +kernel
theorem dX_instantiate_10 : decode cX_instantiate 10 = .ok (.dup, 1) := by decide +kernel
theorem dX_instantiate_11 : decode cX_instantiate 11 = .ok (.invokespecial 63, 3) := by decide +kernel
theorem dX_instantiate_14 : decode cX_instantiate 14 = .ok (.athrow, 1) := by decide +kernel
theorem dX_instantiate_15 : decode cX_instantiate 15 = .ok (.aload_n 0, 1) := by decide +kernel
theorem dX_instantiate_16 : decode cX_instantiate 16 = .ok (.iload_n 2, 1) := by decide +kernel
theorem dX_instantiate_17 : decode cX_instantiate 17 = .ok (.invokevirtual 64, 3) := by decide +kernel
theorem dX_instantiate_20 : decode cX_instantiate 20 = .ok (.ifCond .eq 13, 3) := by decide +kernel
theorem dX_instantiate_23 : decode cX_instantiate 23 = .ok (.iload_n 3, 1) := by decide +kernel
theorem dX_instantiate_24 : decode cX_instantiate 24 = .ok (.ifCond .lt 9, 3) := by decide +kernel
theorem dX_instantiate_27 : decode cX_instantiate 27 = .ok (.iload_n 3, 1) := by decide +kernel
theorem dX_instantiate_28 : decode cX_instantiate 28 = .ok (.bipush 20, 2) := by decide +kernel
theorem dX_instantiate_30 : decode cX_instantiate 30 = .ok (.if_icmp .le 11, 3) := by decide +kernel
theorem dX_instantiate_33 : decode cX_instantiate 33 = .ok (.new 67, 3) := by decide +kernel
theorem dX_instantiate_36 : decode cX_instantiate 36 = .ok (.dup, 1) := by decide +kernel
theorem dX_instantiate_37 : decode cX_instantiate 37 = .ok (.invokespecial 69, 3) := by decide +kernel
theorem dX_instantiate_40 : decode cX_instantiate 40 = .ok (.athrow, 1) := by decide +kernel
theorem dX_instantiate_41 : decode cX_instantiate 41 = .ok (.aload_n 0, 1) := by decide +kernel
theorem dX_instantiate_42 : decode cX_instantiate 42 = .ok (.iload_n 3, 1) := by decide +kernel
theorem dX_instantiate_43 : decode cX_instantiate 43 = .ok (.iconst 2, 1) := by decide +kernel
theorem dX_instantiate_44 : decode cX_instantiate 44 = .ok (.iadd, 1) := by decide +kernel
theorem dX_instantiate_45 : decode cX_instantiate 45 = .ok (.iload_n 2, 1) := by decide +kernel
theorem dX_instantiate_46 : decode cX_instantiate 46 = .ok (.invokevirtual 70, 3) := by decide +kernel
theorem dX_instantiate_49 : decode cX_instantiate 49 = .ok (.istore 4, 2) := by decide +kernel
theorem dX_instantiate_51 : decode cX_instantiate 51 = .ok (.aload_n 0, 1) := by decide +kernel
theorem dX_instantiate_52 : decode cX_instantiate 52 = .ok (.invokevirtual 73, 3) := by decide +kernel
theorem dX_instantiate_55 : decode cX_instantiate 55 = .ok (.istore 5, 2) := by decide +kernel
theorem dX_instantiate_57 : decode cX_instantiate 57 = .ok (.iload 4, 2) := by decide +kernel
theorem dX_instantiate_59 : decode cX_instantiate 59 = .ok (.iconst (-1), 1) := by decide +kernel
theorem dX_instantiate_60 : decode cX_instantiate 60 = .ok (.if_icmp .eq 8, 3) := by decide +kernel
theorem dX_instantiate_63 : decode cX_instantiate 63 = .ok (.iload 5, 2) := by decide +kernel
theorem dX_instantiate_65 : decode cX_instantiate 65 = .ok (.ifCond .ne 11, 3) := by decide +kernel
theorem dX_instantiate_68 : decode cX_instantiate 68 = .ok (.new 77, 3) := by decide +kernel
theorem dX_instantiate_71 : decode cX_instantiate 71 = .ok (.dup, 1) := by decide +kernel
theorem dX_instantiate_72 : decode cX_instantiate 72 = .ok (.invokespecial 79, 3) := by decide +kernel
theorem dX_instantiate_75 : decode cX_instantiate 75 = .ok (.athrow, 1) := by decide +kernel
theorem dX_instantiate_76 : decode cX_instantiate 76 = .ok (.aload_n 0, 1) := by decide +kernel
theorem dX_instantiate_77 : decode cX_instantiate 77 = .ok (.iload 5, 2) := by decide +kernel
theorem dX_instantiate_79 : decode cX_instantiate 79 = .ok (.iload 4, 2) := by decide +kernel
theorem dX_instantiate_81 : decode cX_instantiate 81 = .ok (.iload_n 2, 1) := by decide +kernel
theorem dX_instantiate_82 : decode cX_instantiate 82 = .ok (.iload_n 3, 1) := by decide +kernel
theorem dX_instantiate_83 : decode cX_instantiate 83 = .ok (.invokevirtual 80, 3) := by decide +kernel
theorem dX_instantiate_86 : decode cX_instantiate 86 = .ok (.aload_n 0, 1) := by decide +kernel
theorem dX_instantiate_87 : decode cX_instantiate 87 = .ok (.iload_n 1, 1) := by decide +kernel
theorem dX_instantiate_88 : decode cX_instantiate 88 = .ok (.iconst 2, 1) := by decide +kernel
theorem dX_instantiate_89 : decode cX_instantiate 89 = .ok (.iload 5, 2) := by decide +kernel
theorem dX_instantiate_91 : decode cX_instantiate 91 = .ok (.imul, 1) := by decide +kernel
theorem dX_instantiate_92 : decode cX_instantiate 92 = .ok (.invokevirtual 84, 3) := by decide +kernel
theorem dX_instantiate_95 : decode cX_instantiate 95 = .ok (.pop, 1) := by decide +kernel
theorem dX_instantiate_96 : decode cX_instantiate 96 = .ok (.iconst 2, 1) := by decide +kernel
theorem dX_instantiate_97 : decode cX_instantiate 97 = .ok (.iload 5, 2) := by decide +kernel
theorem dX_instantiate_99 : decode cX_instantiate 99 = .ok (.imul, 1) := by decide +kernel
theorem dX_instantiate_100 : decode cX_instantiate 100 = .ok (.ireturn, 1) := by decide +kernel
theorem dX_set_0 : decode cX_set 0 = .ok (.iload_n 1, 1) := by decide +kernel
theorem dX_set_1 : decode cX_set 1 = .ok (.invokestatic 57, 3) := by decide +kernel
theorem dX_set_4 : decode cX_set 4 = .ok (.ifCond .ne 11, 3) := by decide +kernel
theorem dX_set_7 : decode cX_set 7 = .ok (.new 61, 3) := by decide +kernel
theorem dX_set_10 : decode cX_set 10 = .ok (.dup, 1) := by decide +kernel
theorem dX_set_11 : decode cX_set 11 = .ok (.invokespecial 63, 3) := by decide +kernel
theorem dX_set_14 : decode cX_set 14 = .ok (.athrow, 1) := by decide +kernel
theorem dX_set_15 : decode cX_set 15 = .ok (.aload_n 0, 1) := by decide +kernel
theorem dX_set_16 : decode cX_set 16 = .ok (.iload_n 2, 1) := by decide +kernel
theorem dX_set_17 : decode cX_set 17 = .ok (.invokevirtual 64, 3) := by decide +kernel
theorem dX_set_20 : decode cX_set 20 = .ok (.ifCond .ne 11, 3) := by decide +kernel
theorem dX_set_23 : decode cX_set 23 = .ok (.new 67, 3) := by decide +kernel
theorem dX_set_26 : decode cX_set 26 = .ok (.dup, 1) := by decide +kernel
theorem dX_set_27 : decode cX_set 27 = .ok (.invokespecial 69, 3) := by decide +kernel
theorem dX_set_30 : decode cX_set 30 = .ok (.athrow, 1) := by decide +kernel
theorem dX_set_31 : decode cX_set 31 = .ok (.aload_n 0, 1) := by decide +kernel
theorem dX_set_32 : decode cX_set 32 = .ok (.iload_n 1, 1) := by decide +kernel
theorem dX_set_33 : decode cX_set 33 = .ok (.iload_n 2, 1) := by decide +kernel
theorem dX_set_34 : decode cX_set 34 = .ok (.invokevirtual 84, 3) := by decide +kernel
theorem dX_set_37 : decode cX_set 37 = .ok (.ireturn, 1) := by decide +kernel
theorem dX_register_0 : decode cX_register 0 = .ok (.iload_n 1, 1) := by decide +kernel
theorem dX_register_1 : decode cX_register 1 = .ok (.invokestatic 57, 3) := by decide +kernel
theorem dX_register_4 : decode cX_register 4 = .ok (.ifCond .ne 11, 3) := by decide +kernel
theorem dX_register_7 : decode cX_register 7 = .ok (.new 61, 3) := by decide +kernel
theorem dX_register_10 : decode cX_register 10 = .ok (.dup, 1) := by decide +kernel
theorem dX_register_11 : decode cX_register 11 = .ok (.invokespecial 63, 3) := by decide +kernel
theorem dX_register_14 : decode cX_register 14 = .ok (.athrow, 1) := by decide +kernel
theorem dX_register_15 : decode cX_register 15 = .ok (.aload_n 0, 1) := by decide +kernel
theorem dX_register_16 : decode cX_register 16 = .ok (.getfield 28, 3) := by decide +kernel
theorem dX_register_19 : decode cX_register 19 = .ok (.iload_n 1, 1) := by decide +kernel
theorem dX_register_20 : decode cX_register 20 = .ok (.iaload, 1) := by decide +kernel
theorem dX_register_21 : decode cX_register 21 = .ok (.ireturn, 1) := by decide +kernel
theorem dX_fetch_0 : decode cX_fetch 0 = .ok (.aload_n 0, 1) := by decide +kernel
theorem dX_fetch_1 : decode cX_fetch 1 = .ok (.iload_n 1, 1) := by decide +kernel
theorem dX_fetch_2 : decode cX_fetch 2 = .ok (.invokevirtual 87, 3) := by decide +kernel
theorem dX_fetch_5 : decode cX_fetch 5 = .ok (.ifCond .ne 11, 3) := by decide +kernel
theorem dX_fetch_8 : decode cX_fetch 8 = .ok (.new 67, 3) := by decide +kernel
theorem dX_fetch_11 : decode cX_fetch 11 = .ok (.dup, 1) := by decide +kernel
theorem dX_fetch_12 : decode cX_fetch 12 = .ok (.invokespecial 69, 3) := by decide +kernel
theorem dX_fetch_15 : decode cX_fetch 15 = .ok (.athrow, 1) := by decide +kernel
theorem dX_fetch_16 : decode cX_fetch 16 = .ok (.aload_n 0, 1) := by decide +kernel
theorem dX_fetch_17 : decode cX_fetch 17 = .ok (.iload_n 1, 1) := by decide +kernel
theorem dX_fetch_18 : decode cX_fetch 18 = .ok (.iload_n 2, 1) := by decide +kernel
theorem dX_fetch_19 : decode cX_fetch 19 = .ok (.invokevirtual 90, 3) := by decide +kernel
theorem dX_fetch_22 : decode cX_fetch 22 = .ok (.ifCond .ne 11, 3) := by decide +kernel
theorem dX_fetch_25 : decode cX_fetch 25 = .ok (.new 61, 3) := by decide +kernel
theorem dX_fetch_28 : decode cX_fetch 28 = .ok (.dup, 1) := by decide +kernel
theorem dX_fetch_29 : decode cX_fetch 29 = .ok (.invokespecial 63, 3) := by decide +kernel
theorem dX_fetch_32 : decode cX_fetch 32 = .ok (.athrow, 1) := by decide +kernel
theorem dX_fetch_33 : decode cX_fetch 33 = .ok (.aload_n 0, 1) := by decide +kernel
theorem dX_fetch_34 : decode cX_fetch 34 = .ok (.getfield 18, 3) := by decide +kernel
theorem dX_fetch_37 : decode cX_fetch 37 = .ok (.aload_n 0, 1) := by decide +kernel
theorem dX_fetch_38 : decode cX_fetch 38 = .ok (.iload_n 1, 1) := by decide +kernel
theorem dX_fetch_39 : decode cX_fetch 39 = .ok (.iload_n 2, 1) := by decide +kernel
theorem dX_fetch_40 : decode cX_fetch 40 = .ok (.invokevirtual 94, 3) := by decide +kernel
theorem dX_fetch_43 : decode cX_fetch 43 = .ok (.iaload, 1) := by decide +kernel
theorem dX_fetch_44 : decode cX_fetch 44 = .ok (.ireturn, 1) := by decide +kernel
theorem dX_store_0 : decode cX_store 0 = .ok (.aload_n 0, 1) := by decide +kernel
theorem dX_store_1 : decode cX_store 1 = .ok (.iload_n 1, 1) := by decide +kernel
theorem dX_store_2 : decode cX_store 2 = .ok (.invokevirtual 87, 3) := by decide +kernel
theorem dX_store_5 : decode cX_store 5 = .ok (.ifCond .ne 11, 3) := by decide +kernel
theorem dX_store_8 : decode cX_store 8 = .ok (.new 67, 3) := by decide +kernel
theorem dX_store_11 : decode cX_store 11 = .ok (.dup, 1) := by decide +kernel
theorem dX_store_12 : decode cX_store 12 = .ok (.invokespecial 69, 3) := by decide +kernel
theorem dX_store_15 : decode cX_store 15 = .ok (.athrow, 1) := by decide +kernel
theorem dX_store_16 : decode cX_store 16 = .ok (.aload_n 0, 1) := by decide +kernel
theorem dX_store_17 : decode cX_store 17 = .ok (.iload_n 1, 1) := by decide +kernel
theorem dX_store_18 : decode cX_store 18 = .ok (.iload_n 2, 1) := by decide +kernel
theorem dX_store_19 : decode cX_store 19 = .ok (.invokevirtual 90, 3) := by decide +kernel
theorem dX_store_22 : decode cX_store 22 = .ok (.ifCond .ne 11, 3) := by decide +kernel
theorem dX_store_25 : decode cX_store 25 = .ok (.new 61, 3) := by decide +kernel
theorem dX_store_28 : decode cX_store 28 = .ok (.dup, 1) := by decide +kernel
theorem dX_store_29 : decode cX_store 29 = .ok (.invokespecial 63, 3) := by decide +kernel
theorem dX_store_32 : decode cX_store 32 = .ok (.athrow, 1) := by decide +kernel
theorem dX_store_33 : decode cX_store 33 = .ok (.aload_n 0, 1) := by decide +kernel
theorem dX_store_34 : decode cX_store 34 = .ok (.iload_n 3, 1) := by decide +kernel
theorem dX_store_35 : decode cX_store 35 = .ok (.invokevirtual 64, 3) := by decide +kernel
theorem dX_store_38 : decode cX_store 38 = .ok (.ifCond .ne 11, 3) := by decide +kernel
theorem dX_store_41 : decode cX_store 41 = .ok (.new 67, 3) := by decide +kernel
theorem dX_store_44 : decode cX_store 44 = .ok (.dup, 1) := by decide +kernel
theorem dX_store_45 : decode cX_store 45 = .ok (.invokespecial 69, 3) := by decide +kernel
theorem dX_store_48 : decode cX_store 48 = .ok (.athrow, 1) := by decide +kernel
theorem dX_store_49 : decode cX_store 49 = .ok (.aload_n 0, 1) := by decide +kernel
theorem dX_store_50 : decode cX_store 50 = .ok (.iload_n 1, 1) := by decide +kernel
theorem dX_store_51 : decode cX_store 51 = .ok (.iload_n 2, 1) := by decide +kernel
theorem dX_store_52 : decode cX_store 52 = .ok (.invokevirtual 94, 3) := by decide +kernel
theorem dX_store_55 : decode cX_store 55 = .ok (.istore 4, 2) := by decide +kernel
theorem dX_store_57 : decode cX_store 57 = .ok (.aload_n 0, 1) := by decide +kernel
theorem dX_store_58 : decode cX_store 58 = .ok (.getfield 18, 3) := by decide +kernel
theorem dX_store_61 : decode cX_store 61 = .ok (.iload 4, 2) := by decide +kernel
theorem dX_store_63 : decode cX_store 63 = .ok (.iaload, 1) := by decide +kernel
theorem dX_store_64 : decode cX_store 64 = .ok (.istore 5, 2) := by decide +kernel
theorem dX_store_66 : decode cX_store 66 = .ok (.aload_n 0, 1) := by decide +kernel
theorem dX_store_67 : decode cX_store 67 = .ok (.iload_n 3, 1) := by decide +kernel
theorem dX_store_68 : decode cX_store 68 = .ok (.invokevirtual 97, 3) := by decide +kernel
theorem dX_store_71 : decode cX_store 71 = .ok (.aload_n 0, 1) := by decide +kernel
theorem dX_store_72 : decode cX_store 72 = .ok (.getfield 18, 3) := by decide +kernel
theorem dX_store_75 : decode cX_store 75 = .ok (.iload 4, 2) := by decide +kernel
theorem dX_store_77 : decode cX_store 77 = .ok (.iload_n 3, 1) := by decide +kernel
theorem dX_store_78 : decode cX_store 78 = .ok (.iastore, 1) := by decide +kernel
theorem dX_store_79 : decode cX_store 79 = .ok (.aload_n 0, 1) := by decide +kernel
theorem dX_store_80 : decode cX_store 80 = .ok (.iload 5, 2) := by decide +kernel
theorem dX_store_82 : decode cX_store 82 = .ok (.iconst 0, 1) := by decide +kernel
theorem dX_store_83 : decode cX_store 83 = .ok (.invokevirtual 100, 3) := by decide +kernel
theorem dX_store_86 : decode cX_store 86 = .ok (.iload 5, 2) := by decide +kernel
theorem dX_store_88 : decode cX_store 88 = .ok (.ireturn, 1) := by decide +kernel
theorem dX_type_0 : decode cX_type 0 = .ok (.aload_n 0, 1) := by decide +kernel
theorem dX_type_1 : decode cX_type 1 = .ok (.iload_n 1, 1) := by decide +kernel
theorem dX_type_2 : decode cX_type 2 = .ok (.invokevirtual 87, 3) := by decide +kernel
theorem dX_type_5 : decode cX_type 5 = .ok (.ifCond .ne 11, 3) := by decide +kernel
theorem dX_type_8 : decode cX_type 8 = .ok (.new 67, 3) := by decide +kernel
theorem dX_type_11 : decode cX_type 11 = .ok (.dup, 1) := by decide +kernel
theorem dX_type_12 : decode cX_type 12 = .ok (.invokespecial 69, 3) := by decide +kernel
theorem dX_type_15 : decode cX_type 15 = .ok (.athrow, 1) := by decide +kernel
theorem dX_type_16 : decode cX_type 16 = .ok (.aload_n 0, 1) := by decide +kernel
theorem dX_type_17 : decode cX_type 17 = .ok (.getfield 18, 3) := by decide +kernel
theorem dX_type_20 : decode cX_type 20 = .ok (.aload_n 0, 1) := by decide +kernel
theorem dX_type_21 : decode cX_type 21 = .ok (.getfield 22, 3) := by decide +kernel
theorem dX_type_24 : decode cX_type 24 = .ok (.iload_n 1, 1) := by decide +kernel
theorem dX_type_25 : decode cX_type 25 = .ok (.iconst 2, 1) := by decide +kernel
theorem dX_type_26 : decode cX_type 26 = .ok (.idiv, 1) := by decide +kernel
theorem dX_type_27 : decode cX_type 27 = .ok (.iaload, 1) := by decide +kernel
theorem dX_type_28 : decode cX_type 28 = .ok (.iconst 1, 1) := by decide +kernel
theorem dX_type_29 : decode cX_type 29 = .ok (.iadd, 1) := by decide +kernel
theorem dX_type_30 : decode cX_type 30 = .ok (.iaload, 1) := by decide +kernel
theorem dX_type_31 : decode cX_type 31 = .ok (.ireturn, 1) := by decide +kernel
theorem dX_fields_0 : decode cX_fields 0 = .ok (.aload_n 0, 1) := by decide +kernel
theorem dX_fields_1 : decode cX_fields 1 = .ok (.iload_n 1, 1) := by decide +kernel
theorem dX_fields_2 : decode cX_fields 2 = .ok (.invokevirtual 87, 3) := by decide +kernel
theorem dX_fields_5 : decode cX_fields 5 = .ok (.ifCond .ne 11, 3) := by decide +kernel
theorem dX_fields_8 : decode cX_fields 8 = .ok (.new 67, 3) := by decide +kernel
theorem dX_fields_11 : decode cX_fields 11 = .ok (.dup, 1) := by decide +kernel
theorem dX_fields_12 : decode cX_fields 12 = .ok (.invokespecial 69, 3) := by decide +kernel
theorem dX_fields_15 : decode cX_fields 15 = .ok (.athrow, 1) := by decide +kernel
theorem dX_fields_16 : decode cX_fields 16 = .ok (.aload_n 0, 1) := by decide +kernel
theorem dX_fields_17 : decode cX_fields 17 = .ok (.getfield 18, 3) := by decide +kernel
theorem dX_fields_20 : decode cX_fields 20 = .ok (.aload_n 0, 1) := by decide +kernel
theorem dX_fields_21 : decode cX_fields 21 = .ok (.getfield 22, 3) := by decide +kernel
theorem dX_fields_24 : decode cX_fields 24 = .ok (.iload_n 1, 1) := by decide +kernel
theorem dX_fields_25 : decode cX_fields 25 = .ok (.iconst 2, 1) := by decide +kernel
theorem dX_fields_26 : decode cX_fields 26 = .ok (.idiv, 1) := by decide +kernel
theorem dX_fields_27 : decode cX_fields 27 = .ok (.iaload, 1) := by decide +kernel
theorem dX_fields_28 : decode cX_fields 28 = .ok (.iaload, 1) := by decide +kernel
theorem dX_fields_29 : decode cX_fields 29 = .ok (.ireturn, 1) := by decide +kernel
theorem dX_become_0 : decode cX_become 0 = .ok (.aload_n 0, 1) := by decide +kernel
theorem dX_become_1 : decode cX_become 1 = .ok (.iload_n 1, 1) := by decide +kernel
theorem dX_become_2 : decode cX_become 2 = .ok (.invokevirtual 87, 3) := by decide +kernel
theorem dX_become_5 : decode cX_become 5 = .ok (.ifCond .eq 11, 3) := by decide +kernel
theorem dX_become_8 : decode cX_become 8 = .ok (.aload_n 0, 1) := by decide +kernel
theorem dX_become_9 : decode cX_become 9 = .ok (.iload_n 2, 1) := by decide +kernel
theorem dX_become_10 : decode cX_become 10 = .ok (.invokevirtual 87, 3) := by decide +kernel
theorem dX_become_13 : decode cX_become 13 = .ok (.ifCond .ne 11, 3) := by decide +kernel
theorem dX_become_16 : decode cX_become 16 = .ok (.new 67, 3) := by decide +kernel
theorem dX_become_19 : decode cX_become 19 = .ok (.dup, 1) := by decide +kernel
theorem dX_become_20 : decode cX_become 20 = .ok (.invokespecial 69, 3) := by decide +kernel
theorem dX_become_23 : decode cX_become 23 = .ok (.athrow, 1) := by decide +kernel
theorem dX_become_24 : decode cX_become 24 = .ok (.aload_n 0, 1) := by decide +kernel
theorem dX_become_25 : decode cX_become 25 = .ok (.getfield 22, 3) := by decide +kernel
theorem dX_become_28 : decode cX_become 28 = .ok (.iload_n 1, 1) := by decide +kernel
theorem dX_become_29 : decode cX_become 29 = .ok (.iconst 2, 1) := by decide +kernel
theorem dX_become_30 : decode cX_become 30 = .ok (.idiv, 1) := by decide +kernel
theorem dX_become_31 : decode cX_become 31 = .ok (.iaload, 1) := by decide +kernel
theorem dX_become_32 : decode cX_become 32 = .ok (.istore_n 3, 1) := by decide +kernel
theorem dX_become_33 : decode cX_become 33 = .ok (.aload_n 0, 1) := by decide +kernel
theorem dX_become_34 : decode cX_become 34 = .ok (.getfield 22, 3) := by decide +kernel
theorem dX_become_37 : decode cX_become 37 = .ok (.iload_n 1, 1) := by decide +kernel
theorem dX_become_38 : decode cX_become 38 = .ok (.iconst 2, 1) := by decide +kernel
theorem dX_become_39 : decode cX_become 39 = .ok (.idiv, 1) := by decide +kernel
theorem dX_become_40 : decode cX_become 40 = .ok (.aload_n 0, 1) := by decide +kernel
theorem dX_become_41 : decode cX_become 41 = .ok (.getfield 22, 3) := by decide +kernel
theorem dX_become_44 : decode cX_become 44 = .ok (.iload_n 2, 1) := by decide +kernel
theorem dX_become_45 : decode cX_become 45 = .ok (.iconst 2, 1) := by decide +kernel
theorem dX_become_46 : decode cX_become 46 = .ok (.idiv, 1) := by decide +kernel
theorem dX_become_47 : decode cX_become 47 = .ok (.iaload, 1) := by decide +kernel
theorem dX_become_48 : decode cX_become 48 = .ok (.iastore, 1) := by decide +kernel
theorem dX_become_49 : decode cX_become 49 = .ok (.aload_n 0, 1) := by decide +kernel
theorem dX_become_50 : decode cX_become 50 = .ok (.getfield 22, 3) := by decide +kernel
theorem dX_become_53 : decode cX_become 53 = .ok (.iload_n 2, 1) := by decide +kernel
theorem dX_become_54 : decode cX_become 54 = .ok (.iconst 2, 1) := by decide +kernel
theorem dX_become_55 : decode cX_become 55 = .ok (.idiv, 1) := by decide +kernel
theorem dX_become_56 : decode cX_become 56 = .ok (.iload_n 3, 1) := by decide +kernel
theorem dX_become_57 : decode cX_become 57 = .ok (.iastore, 1) := by decide +kernel
theorem dX_become_58 : decode cX_become 58 = .ok (.return_, 1) := by decide +kernel
theorem dX_collect_0 : decode cX_collect 0 = .ok (.aload_n 0, 1) := by decide +kernel
theorem dX_collect_1 : decode cX_collect 1 = .ok (.iconst 0, 1) := by decide +kernel
theorem dX_collect_2 : decode cX_collect 2 = .ok (.invokevirtual 104, 3) := by decide +kernel
theorem dX_collect_5 : decode cX_collect 5 = .ok (.ireturn, 1) := by decide +kernel
theorem dX_compact_0 : decode cX_compact 0 = .ok (.aload_n 0, 1) := by decide +kernel
theorem dX_compact_1 : decode cX_compact 1 = .ok (.invokevirtual 108, 3) := by decide +kernel
theorem dX_compact_4 : decode cX_compact 4 = .ok (.ireturn, 1) := by decide +kernel
theorem dX_exists_0 : decode cX_exists 0 = .ok (.aload_n 0, 1) := by decide +kernel
theorem dX_exists_1 : decode cX_exists 1 = .ok (.iload_n 1, 1) := by decide +kernel
theorem dX_exists_2 : decode cX_exists 2 = .ok (.invokevirtual 87, 3) := by decide +kernel
theorem dX_exists_5 : decode cX_exists 5 = .ok (.ireturn, 1) := by decide +kernel
theorem dX_count_0 : decode cX_count 0 = .ok (.aload_n 0, 1) := by decide +kernel
theorem dX_count_1 : decode cX_count 1 = .ok (.iload_n 1, 1) := by decide +kernel
theorem dX_count_2 : decode cX_count 2 = .ok (.invokevirtual 87, 3) := by decide +kernel
theorem dX_count_5 : decode cX_count 5 = .ok (.ifCond .eq 14, 3) := by decide +kernel
theorem dX_count_8 : decode cX_count 8 = .ok (.aload_n 0, 1) := by decide +kernel
theorem dX_count_9 : decode cX_count 9 = .ok (.getfield 25, 3) := by decide +kernel
theorem dX_count_12 : decode cX_count 12 = .ok (.iload_n 1, 1) := by decide +kernel
theorem dX_count_13 : decode cX_count 13 = .ok (.iconst 2, 1) := by decide +kernel
theorem dX_count_14 : decode cX_count 14 = .ok (.idiv, 1) := by decide +kernel
theorem dX_count_15 : decode cX_count 15 = .ok (.iaload, 1) := by decide +kernel
theorem dX_count_16 : decode cX_count 16 = .ok (.goto 4, 3) := by decide +kernel
theorem dX_count_19 : decode cX_count 19 = .ok (.iconst 0, 1) := by decide +kernel
theorem dX_count_20 : decode cX_count 20 = .ok (.ireturn, 1) := by decide +kernel
theorem dX_address_0 : decode cX_address 0 = .ok (.aload_n 0, 1) := by decide +kernel
theorem dX_address_1 : decode cX_address 1 = .ok (.iload_n 1, 1) := by decide +kernel
theorem dX_address_2 : decode cX_address 2 = .ok (.invokevirtual 87, 3) := by decide +kernel
theorem dX_address_5 : decode cX_address 5 = .ok (.ifCond .eq 14, 3) := by decide +kernel
theorem dX_address_8 : decode cX_address 8 = .ok (.aload_n 0, 1) := by decide +kernel
theorem dX_address_9 : decode cX_address 9 = .ok (.getfield 22, 3) := by decide +kernel
theorem dX_address_12 : decode cX_address 12 = .ok (.iload_n 1, 1) := by decide +kernel
theorem dX_address_13 : decode cX_address 13 = .ok (.iconst 2, 1) := by decide +kernel
theorem dX_address_14 : decode cX_address 14 = .ok (.idiv, 1) := by decide +kernel
theorem dX_address_15 : decode cX_address 15 = .ok (.iaload, 1) := by decide +kernel
theorem dX_address_16 : decode cX_address 16 = .ok (.goto 4, 3) := by decide +kernel
theorem dX_address_19 : decode cX_address 19 = .ok (.iconst (-1), 1) := by decide +kernel
theorem dX_address_20 : decode cX_address 20 = .ok (.ireturn, 1) := by decide +kernel
theorem dX_chunks_0 : decode cX_chunks 0 = .ok (.iload_n 1, 1) := by decide +kernel
theorem dX_chunks_1 : decode cX_chunks 1 = .ok (.ifCond .ne 13, 3) := by decide +kernel
theorem dX_chunks_4 : decode cX_chunks 4 = .ok (.aload_n 0, 1) := by decide +kernel
theorem dX_chunks_5 : decode cX_chunks 5 = .ok (.getfield 36, 3) := by decide +kernel
theorem dX_chunks_8 : decode cX_chunks 8 = .ok (.getfield 111, 3) := by decide +kernel
theorem dX_chunks_11 : decode cX_chunks 11 = .ok (.goto 11, 3) := by decide +kernel
theorem dX_chunks_14 : decode cX_chunks 14 = .ok (.aload_n 0, 1) := by decide +kernel
theorem dX_chunks_15 : decode cX_chunks 15 = .ok (.getfield 36, 3) := by decide +kernel
theorem dX_chunks_18 : decode cX_chunks 18 = .ok (.iload_n 1, 1) := by decide +kernel
theorem dX_chunks_19 : decode cX_chunks 19 = .ok (.invokevirtual 114, 3) := by decide +kernel
theorem dX_chunks_22 : decode cX_chunks 22 = .ok (.ireturn, 1) := by decide +kernel
theorem dX_free_0 : decode cX_free 0 = .ok (.aload_n 0, 1) := by decide +kernel
theorem dX_free_1 : decode cX_free 1 = .ok (.getfield 36, 3) := by decide +kernel
theorem dX_free_4 : decode cX_free 4 = .ok (.invokevirtual 117, 3) := by decide +kernel
theorem dX_free_7 : decode cX_free 7 = .ok (.ireturn, 1) := by decide +kernel
theorem dX_objects_0 : decode cX_objects 0 = .ok (.iconst 0, 1) := by decide +kernel
theorem dX_objects_1 : decode cX_objects 1 = .ok (.istore_n 1, 1) := by decide +kernel
theorem dX_objects_2 : decode cX_objects 2 = .ok (.iconst 1, 1) := by decide +kernel
theorem dX_objects_3 : decode cX_objects 3 = .ok (.istore_n 2, 1) := by decide +kernel
theorem dX_objects_4 : decode cX_objects 4 = .ok (.iload_n 2, 1) := by decide +kernel
theorem dX_objects_5 : decode cX_objects 5 = .ok (.aload_n 0, 1) := by decide +kernel
theorem dX_objects_6 : decode cX_objects 6 = .ok (.getfield 22, 3) := by decide +kernel
theorem dX_objects_9 : decode cX_objects 9 = .ok (.arraylength, 1) := by decide +kernel
theorem dX_objects_10 : decode cX_objects 10 = .ok (.if_icmp .ge 20, 3) := by decide +kernel
theorem dX_objects_13 : decode cX_objects 13 = .ok (.aload_n 0, 1) := by decide +kernel
theorem dX_objects_14 : decode cX_objects 14 = .ok (.iload_n 2, 1) := by decide +kernel
theorem dX_objects_15 : decode cX_objects 15 = .ok (.invokevirtual 120, 3) := by decide +kernel
theorem dX_objects_18 : decode cX_objects 18 = .ok (.ifCond .eq 6, 3) := by decide +kernel
theorem dX_objects_21 : decode cX_objects 21 = .ok (.iinc 1 1, 3) := by decide +kernel
theorem dX_objects_24 : decode cX_objects 24 = .ok (.iinc 2 1, 3) := by decide +kernel
theorem dX_objects_27 : decode cX_objects 27 = .ok (.goto (-23), 3) := by decide +kernel
theorem dX_objects_30 : decode cX_objects 30 = .ok (.iload_n 1, 1) := by decide +kernel
theorem dX_objects_31 : decode cX_objects 31 = .ok (.ireturn, 1) := by decide +kernel
theorem dX_isRegister_0 : decode cX_isRegister 0 = .ok (.iload_n 0, 1) := by decide +kernel
theorem dX_isRegister_1 : decode cX_isRegister 1 = .ok (.ifCond .lt 13, 3) := by decide +kernel
theorem dX_isRegister_4 : decode cX_isRegister 4 = .ok (.iload_n 0, 1) := by decide +kernel
theorem dX_isRegister_5 : decode cX_isRegister 5 = .ok (.bipush 8, 2) := by decide +kernel
theorem dX_isRegister_7 : decode cX_isRegister 7 = .ok (.if_icmp .ge 7, 3) := by decide +kernel
theorem dX_isRegister_10 : decode cX_isRegister 10 = .ok (.iconst 1, 1) := by decide +kernel
theorem dX_isRegister_11 : decode cX_isRegister 11 = .ok (.goto 4, 3) := by decide +kernel
theorem dX_isRegister_14 : decode cX_isRegister 14 = .ok (.iconst 0, 1) := by decide +kernel
theorem dX_isRegister_15 : decode cX_isRegister 15 = .ok (.ireturn, 1) := by decide +kernel
theorem dX_isUsed_0 : decode cX_isUsed 0 = .ok (.aload_n 0, 1) := by decide +kernel
theorem dX_isUsed_1 : decode cX_isUsed 1 = .ok (.getfield 22, 3) := by decide +kernel
theorem dX_isUsed_4 : decode cX_isUsed 4 = .ok (.iload_n 1, 1) := by decide +kernel
theorem dX_isUsed_5 : decode cX_isUsed 5 = .ok (.iaload, 1) := by decide +kernel
theorem dX_isUsed_6 : decode cX_isUsed 6 = .ok (.iconst (-1), 1) := by decide +kernel
theorem dX_isUsed_7 : decode cX_isUsed 7 = .ok (.if_icmp .eq 7, 3) := by decide +kernel
theorem dX_isUsed_10 : decode cX_isUsed 10 = .ok (.iconst 1, 1) := by decide +kernel
theorem dX_isUsed_11 : decode cX_isUsed 11 = .ok (.goto 4, 3) := by decide +kernel
theorem dX_isUsed_14 : decode cX_isUsed 14 = .ok (.iconst 0, 1) := by decide +kernel
theorem dX_isUsed_15 : decode cX_isUsed 15 = .ok (.ireturn, 1) := by decide +kernel
theorem dX_isObject_0 : decode cX_isObject 0 = .ok (.iload_n 1, 1) := by decide +kernel
theorem dX_isObject_1 : decode cX_isObject 1 = .ok (.ifCond .le 34, 3) := by decide +kernel
theorem dX_isObject_4 : decode cX_isObject 4 = .ok (.iload_n 1, 1) := by decide +kernel
theorem dX_isObject_5 : decode cX_isObject 5 = .ok (.iconst 2, 1) := by decide +kernel
theorem dX_isObject_6 : decode cX_isObject 6 = .ok (.irem, 1) := by decide +kernel
theorem dX_isObject_7 : decode cX_isObject 7 = .ok (.ifCond .ne 28, 3) := by decide +kernel
theorem dX_isObject_10 : decode cX_isObject 10 = .ok (.iload_n 1, 1) := by decide +kernel
theorem dX_isObject_11 : decode cX_isObject 11 = .ok (.iconst 2, 1) := by decide +kernel
theorem dX_isObject_12 : decode cX_isObject 12 = .ok (.idiv, 1) := by decide +kernel
theorem dX_isObject_13 : decode cX_isObject 13 = .ok (.aload_n 0, 1) := by decide +kernel
theorem dX_isObject_14 : decode cX_isObject 14 = .ok (.getfield 22, 3) := by decide +kernel
theorem dX_isObject_17 : decode cX_isObject 17 = .ok (.arraylength, 1) := by decide +kernel
theorem dX_isObject_18 : decode cX_isObject 18 = .ok (.if_icmp .ge 17, 3) := by decide +kernel
theorem dX_isObject_21 : decode cX_isObject 21 = .ok (.aload_n 0, 1) := by decide +kernel
theorem dX_isObject_22 : decode cX_isObject 22 = .ok (.iload_n 1, 1) := by decide +kernel
theorem dX_isObject_23 : decode cX_isObject 23 = .ok (.iconst 2, 1) := by decide +kernel
theorem dX_isObject_24 : decode cX_isObject 24 = .ok (.idiv, 1) := by decide +kernel
theorem dX_isObject_25 : decode cX_isObject 25 = .ok (.invokevirtual 120, 3) := by decide +kernel
theorem dX_isObject_28 : decode cX_isObject 28 = .ok (.ifCond .eq 7, 3) := by decide +kernel
theorem dX_isObject_31 : decode cX_isObject 31 = .ok (.iconst 1, 1) := by decide +kernel
theorem dX_isObject_32 : decode cX_isObject 32 = .ok (.goto 4, 3) := by decide +kernel
theorem dX_isObject_35 : decode cX_isObject 35 = .ok (.iconst 0, 1) := by decide +kernel
theorem dX_isObject_36 : decode cX_isObject 36 = .ok (.ireturn, 1) := by decide +kernel
theorem dX_isValue_0 : decode cX_isValue 0 = .ok (.iload_n 1, 1) := by decide +kernel
theorem dX_isValue_1 : decode cX_isValue 1 = .ok (.ifCond .eq 17, 3) := by decide +kernel
theorem dX_isValue_4 : decode cX_isValue 4 = .ok (.iload_n 1, 1) := by decide +kernel
theorem dX_isValue_5 : decode cX_isValue 5 = .ok (.iconst 2, 1) := by decide +kernel
theorem dX_isValue_6 : decode cX_isValue 6 = .ok (.irem, 1) := by decide +kernel
theorem dX_isValue_7 : decode cX_isValue 7 = .ok (.ifCond .ne 11, 3) := by decide +kernel
theorem dX_isValue_10 : decode cX_isValue 10 = .ok (.aload_n 0, 1) := by decide +kernel
theorem dX_isValue_11 : decode cX_isValue 11 = .ok (.iload_n 1, 1) := by decide +kernel
theorem dX_isValue_12 : decode cX_isValue 12 = .ok (.invokevirtual 87, 3) := by decide +kernel
theorem dX_isValue_15 : decode cX_isValue 15 = .ok (.ifCond .eq 7, 3) := by decide +kernel
theorem dX_isValue_18 : decode cX_isValue 18 = .ok (.iconst 1, 1) := by decide +kernel
theorem dX_isValue_19 : decode cX_isValue 19 = .ok (.goto 4, 3) := by decide +kernel
theorem dX_isValue_22 : decode cX_isValue 22 = .ok (.iconst 0, 1) := by decide +kernel
theorem dX_isValue_23 : decode cX_isValue 23 = .ok (.ireturn, 1) := by decide +kernel
theorem dX_hasField_0 : decode cX_hasField 0 = .ok (.iload_n 2, 1) := by decide +kernel
theorem dX_hasField_1 : decode cX_hasField 1 = .ok (.ifCond .lt 24, 3) := by decide +kernel
theorem dX_hasField_4 : decode cX_hasField 4 = .ok (.iload_n 2, 1) := by decide +kernel
theorem dX_hasField_5 : decode cX_hasField 5 = .ok (.aload_n 0, 1) := by decide +kernel
theorem dX_hasField_6 : decode cX_hasField 6 = .ok (.getfield 18, 3) := by decide +kernel
theorem dX_hasField_9 : decode cX_hasField 9 = .ok (.aload_n 0, 1) := by decide +kernel
theorem dX_hasField_10 : decode cX_hasField 10 = .ok (.getfield 22, 3) := by decide +kernel
theorem dX_hasField_13 : decode cX_hasField 13 = .ok (.iload_n 1, 1) := by decide +kernel
theorem dX_hasField_14 : decode cX_hasField 14 = .ok (.iconst 2, 1) := by decide +kernel
theorem dX_hasField_15 : decode cX_hasField 15 = .ok (.idiv, 1) := by decide +kernel
theorem dX_hasField_16 : decode cX_hasField 16 = .ok (.iaload, 1) := by decide +kernel
theorem dX_hasField_17 : decode cX_hasField 17 = .ok (.iaload, 1) := by decide +kernel
theorem dX_hasField_18 : decode cX_hasField 18 = .ok (.if_icmp .ge 7, 3) := by decide +kernel
theorem dX_hasField_21 : decode cX_hasField 21 = .ok (.iconst 1, 1) := by decide +kernel
theorem dX_hasField_22 : decode cX_hasField 22 = .ok (.goto 4, 3) := by decide +kernel
theorem dX_hasField_25 : decode cX_hasField 25 = .ok (.iconst 0, 1) := by decide +kernel
theorem dX_hasField_26 : decode cX_hasField 26 = .ok (.ireturn, 1) := by decide +kernel
theorem dX_fieldWord_0 : decode cX_fieldWord 0 = .ok (.aload_n 0, 1) := by decide +kernel
theorem dX_fieldWord_1 : decode cX_fieldWord 1 = .ok (.getfield 22, 3) := by decide +kernel
theorem dX_fieldWord_4 : decode cX_fieldWord 4 = .ok (.iload_n 1, 1) := by decide +kernel
theorem dX_fieldWord_5 : decode cX_fieldWord 5 = .ok (.iconst 2, 1) := by decide +kernel
theorem dX_fieldWord_6 : decode cX_fieldWord 6 = .ok (.idiv, 1) := by decide +kernel
theorem dX_fieldWord_7 : decode cX_fieldWord 7 = .ok (.iaload, 1) := by decide +kernel
theorem dX_fieldWord_8 : decode cX_fieldWord 8 = .ok (.iconst 2, 1) := by decide +kernel
theorem dX_fieldWord_9 : decode cX_fieldWord 9 = .ok (.iadd, 1) := by decide +kernel
theorem dX_fieldWord_10 : decode cX_fieldWord 10 = .ok (.iload_n 2, 1) := by decide +kernel
theorem dX_fieldWord_11 : decode cX_fieldWord 11 = .ok (.iadd, 1) := by decide +kernel
theorem dX_fieldWord_12 : decode cX_fieldWord 12 = .ok (.ireturn, 1) := by decide +kernel
theorem dX_wordsOf_0 : decode cX_wordsOf 0 = .ok (.aload_n 0, 1) := by decide +kernel
theorem dX_wordsOf_1 : decode cX_wordsOf 1 = .ok (.getfield 18, 3) := by decide +kernel
theorem dX_wordsOf_4 : decode cX_wordsOf 4 = .ok (.aload_n 0, 1) := by decide +kernel
theorem dX_wordsOf_5 : decode cX_wordsOf 5 = .ok (.getfield 22, 3) := by decide +kernel
theorem dX_wordsOf_8 : decode cX_wordsOf 8 = .ok (.iload_n 1, 1) := by decide +kernel
theorem dX_wordsOf_9 : decode cX_wordsOf 9 = .ok (.iaload, 1) := by decide +kernel
theorem dX_wordsOf_10 : decode cX_wordsOf 10 = .ok (.iaload, 1) := by decide +kernel
theorem dX_wordsOf_11 : decode cX_wordsOf 11 = .ok (.iconst 2, 1) := by decide +kernel
theorem dX_wordsOf_12 : decode cX_wordsOf 12 = .ok (.iadd, 1) := by decide +kernel
theorem dX_wordsOf_13 : decode cX_wordsOf 13 = .ok (.ireturn, 1) := by decide +kernel
theorem dX_leastFreeEntry_0 : decode cX_leastFreeEntry 0 = .ok (.iconst 1, 1) := by decide +kernel
theorem dX_leastFreeEntry_1 : decode cX_leastFreeEntry 1 = .ok (.istore_n 1, 1) := by decide +kernel
theorem dX_leastFreeEntry_2 : decode cX_leastFreeEntry 2 = .ok (.iload_n 1, 1) := by decide +kernel
theorem dX_leastFreeEntry_3 : decode cX_leastFreeEntry 3 = .ok (.aload_n 0, 1) := by decide +kernel
theorem dX_leastFreeEntry_4 : decode cX_leastFreeEntry 4 = .ok (.getfield 22, 3) := by decide +kernel
theorem dX_leastFreeEntry_7 : decode cX_leastFreeEntry 7 = .ok (.arraylength, 1) := by decide +kernel
theorem dX_leastFreeEntry_8 : decode cX_leastFreeEntry 8 = .ok (.if_icmp .ge 19, 3) := by decide +kernel
theorem dX_leastFreeEntry_11 : decode cX_leastFreeEntry 11 = .ok (.aload_n 0, 1) := by decide +kernel
theorem dX_leastFreeEntry_12 : decode cX_leastFreeEntry 12 = .ok (.iload_n 1, 1) := by decide +kernel
theorem dX_leastFreeEntry_13 : decode cX_leastFreeEntry 13 = .ok (.invokevirtual 120, 3) := by decide +kernel
theorem dX_leastFreeEntry_16 : decode cX_leastFreeEntry 16 = .ok (.ifCond .ne 5, 3) := by decide +kernel
theorem dX_leastFreeEntry_19 : decode cX_leastFreeEntry 19 = .ok (.iload_n 1, 1) := by decide +kernel
theorem dX_leastFreeEntry_20 : decode cX_leastFreeEntry 20 = .ok (.ireturn, 1) := by decide +kernel
theorem dX_leastFreeEntry_21 : decode cX_leastFreeEntry 21 = .ok (.iinc 1 1, 3) := by decide +kernel
theorem dX_leastFreeEntry_24 : decode cX_leastFreeEntry 24 = .ok (.goto (-22), 3) := by decide +kernel
theorem dX_leastFreeEntry_27 : decode cX_leastFreeEntry 27 = .ok (.iconst 0, 1) := by decide +kernel
theorem dX_leastFreeEntry_28 : decode cX_leastFreeEntry 28 = .ok (.ireturn, 1) := by decide +kernel
theorem dX_makeObject_0 : decode cX_makeObject 0 = .ok (.aload_n 0, 1) := by decide +kernel
theorem dX_makeObject_1 : decode cX_makeObject 1 = .ok (.iload_n 3, 1) := by decide +kernel
theorem dX_makeObject_2 : decode cX_makeObject 2 = .ok (.invokevirtual 97, 3) := by decide +kernel
theorem dX_makeObject_5 : decode cX_makeObject 5 = .ok (.aload_n 0, 1) := by decide +kernel
theorem dX_makeObject_6 : decode cX_makeObject 6 = .ok (.getfield 22, 3) := by decide +kernel
theorem dX_makeObject_9 : decode cX_makeObject 9 = .ok (.iload_n 1, 1) := by decide +kernel
theorem dX_makeObject_10 : decode cX_makeObject 10 = .ok (.iload_n 2, 1) := by decide +kernel
theorem dX_makeObject_11 : decode cX_makeObject 11 = .ok (.iastore, 1) := by decide +kernel
theorem dX_makeObject_12 : decode cX_makeObject 12 = .ok (.aload_n 0, 1) := by decide +kernel
theorem dX_makeObject_13 : decode cX_makeObject 13 = .ok (.getfield 25, 3) := by decide +kernel
theorem dX_makeObject_16 : decode cX_makeObject 16 = .ok (.iload_n 1, 1) := by decide +kernel
theorem dX_makeObject_17 : decode cX_makeObject 17 = .ok (.iconst 0, 1) := by decide +kernel
theorem dX_makeObject_18 : decode cX_makeObject 18 = .ok (.iastore, 1) := by decide +kernel
theorem dX_makeObject_19 : decode cX_makeObject 19 = .ok (.aload_n 0, 1) := by decide +kernel
theorem dX_makeObject_20 : decode cX_makeObject 20 = .ok (.getfield 18, 3) := by decide +kernel
theorem dX_makeObject_23 : decode cX_makeObject 23 = .ok (.iload_n 2, 1) := by decide +kernel
theorem dX_makeObject_24 : decode cX_makeObject 24 = .ok (.iload 4, 2) := by decide +kernel
theorem dX_makeObject_26 : decode cX_makeObject 26 = .ok (.iastore, 1) := by decide +kernel
theorem dX_makeObject_27 : decode cX_makeObject 27 = .ok (.aload_n 0, 1) := by decide +kernel
theorem dX_makeObject_28 : decode cX_makeObject 28 = .ok (.getfield 18, 3) := by decide +kernel
theorem dX_makeObject_31 : decode cX_makeObject 31 = .ok (.iload_n 2, 1) := by decide +kernel
theorem dX_makeObject_32 : decode cX_makeObject 32 = .ok (.iconst 1, 1) := by decide +kernel
theorem dX_makeObject_33 : decode cX_makeObject 33 = .ok (.iadd, 1) := by decide +kernel
theorem dX_makeObject_34 : decode cX_makeObject 34 = .ok (.iload_n 3, 1) := by decide +kernel
theorem dX_makeObject_35 : decode cX_makeObject 35 = .ok (.iastore, 1) := by decide +kernel
theorem dX_makeObject_36 : decode cX_makeObject 36 = .ok (.iconst 0, 1) := by decide +kernel
theorem dX_makeObject_37 : decode cX_makeObject 37 = .ok (.istore 5, 2) := by decide +kernel
theorem dX_makeObject_39 : decode cX_makeObject 39 = .ok (.iload 5, 2) := by decide +kernel
theorem dX_makeObject_41 : decode cX_makeObject 41 = .ok (.iload 4, 2) := by decide +kernel
theorem dX_makeObject_43 : decode cX_makeObject 43 = .ok (.if_icmp .ge 21, 3) := by decide +kernel
theorem dX_makeObject_46 : decode cX_makeObject 46 = .ok (.aload_n 0, 1) := by decide +kernel
theorem dX_makeObject_47 : decode cX_makeObject 47 = .ok (.getfield 18, 3) := by decide +kernel
theorem dX_makeObject_50 : decode cX_makeObject 50 = .ok (.iload_n 2, 1) := by decide +kernel
theorem dX_makeObject_51 : decode cX_makeObject 51 = .ok (.iconst 2, 1) := by decide +kernel
theorem dX_makeObject_52 : decode cX_makeObject 52 = .ok (.iadd, 1) := by decide +kernel
theorem dX_makeObject_53 : decode cX_makeObject 53 = .ok (.iload 5, 2) := by decide +kernel
theorem dX_makeObject_55 : decode cX_makeObject 55 = .ok (.iadd, 1) := by decide +kernel
theorem dX_makeObject_56 : decode cX_makeObject 56 = .ok (.iconst 0, 1) := by decide +kernel
theorem dX_makeObject_57 : decode cX_makeObject 57 = .ok (.iastore, 1) := by decide +kernel
theorem dX_makeObject_58 : decode cX_makeObject 58 = .ok (.iinc 5 1, 3) := by decide +kernel
theorem dX_makeObject_61 : decode cX_makeObject 61 = .ok (.goto (-22), 3) := by decide +kernel
theorem dX_makeObject_64 : decode cX_makeObject 64 = .ok (.return_, 1) := by decide +kernel
theorem dX_replaceRegister_0 : decode cX_replaceRegister 0 = .ok (.aload_n 0, 1) := by decide +kernel
theorem dX_replaceRegister_1 : decode cX_replaceRegister 1 = .ok (.getfield 28, 3) := by decide +kernel
theorem dX_replaceRegister_4 : decode cX_replaceRegister 4 = .ok (.iload_n 1, 1) := by decide +kernel
theorem dX_replaceRegister_5 : decode cX_replaceRegister 5 = .ok (.iaload, 1) := by decide +kernel
theorem dX_replaceRegister_6 : decode cX_replaceRegister 6 = .ok (.istore_n 3, 1) := by decide +kernel
theorem dX_replaceRegister_7 : decode cX_replaceRegister 7 = .ok (.aload_n 0, 1) := by decide +kernel
theorem dX_replaceRegister_8 : decode cX_replaceRegister 8 = .ok (.iload_n 2, 1) := by decide +kernel
theorem dX_replaceRegister_9 : decode cX_replaceRegister 9 = .ok (.invokevirtual 97, 3) := by decide +kernel
theorem dX_replaceRegister_12 : decode cX_replaceRegister 12 = .ok (.aload_n 0, 1) := by decide +kernel
theorem dX_replaceRegister_13 : decode cX_replaceRegister 13 = .ok (.getfield 28, 3) := by decide +kernel
theorem dX_replaceRegister_16 : decode cX_replaceRegister 16 = .ok (.iload_n 1, 1) := by decide +kernel
theorem dX_replaceRegister_17 : decode cX_replaceRegister 17 = .ok (.iload_n 2, 1) := by decide +kernel
theorem dX_replaceRegister_18 : decode cX_replaceRegister 18 = .ok (.iastore, 1) := by decide +kernel
theorem dX_replaceRegister_19 : decode cX_replaceRegister 19 = .ok (.aload_n 0, 1) := by decide +kernel
theorem dX_replaceRegister_20 : decode cX_replaceRegister 20 = .ok (.iload_n 3, 1) := by decide +kernel
theorem dX_replaceRegister_21 : decode cX_replaceRegister 21 = .ok (.iconst 0, 1) := by decide +kernel
theorem dX_replaceRegister_22 : decode cX_replaceRegister 22 = .ok (.invokevirtual 100, 3) := by decide +kernel
theorem dX_replaceRegister_25 : decode cX_replaceRegister 25 = .ok (.iload_n 3, 1) := by decide +kernel
theorem dX_replaceRegister_26 : decode cX_replaceRegister 26 = .ok (.ireturn, 1) := by decide +kernel
theorem dX_addReference_0 : decode cX_addReference 0 = .ok (.aload_n 0, 1) := by decide +kernel
theorem dX_addReference_1 : decode cX_addReference 1 = .ok (.iload_n 1, 1) := by decide +kernel
theorem dX_addReference_2 : decode cX_addReference 2 = .ok (.invokevirtual 87, 3) := by decide +kernel
theorem dX_addReference_5 : decode cX_addReference 5 = .ok (.ifCond .eq 28, 3) := by decide +kernel
theorem dX_addReference_8 : decode cX_addReference 8 = .ok (.aload_n 0, 1) := by decide +kernel
theorem dX_addReference_9 : decode cX_addReference 9 = .ok (.getfield 25, 3) := by decide +kernel
theorem dX_addReference_12 : decode cX_addReference 12 = .ok (.iload_n 1, 1) := by decide +kernel
theorem dX_addReference_13 : decode cX_addReference 13 = .ok (.iconst 2, 1) := by decide +kernel
theorem dX_addReference_14 : decode cX_addReference 14 = .ok (.idiv, 1) := by decide +kernel
theorem dX_addReference_15 : decode cX_addReference 15 = .ok (.iaload, 1) := by decide +kernel
theorem dX_addReference_16 : decode cX_addReference 16 = .ok (.bipush 7, 2) := by decide +kernel
theorem dX_addReference_18 : decode cX_addReference 18 = .ok (.if_icmp .ge 15, 3) := by decide +kernel
theorem dX_addReference_21 : decode cX_addReference 21 = .ok (.aload_n 0, 1) := by decide +kernel
theorem dX_addReference_22 : decode cX_addReference 22 = .ok (.getfield 25, 3) := by decide +kernel
theorem dX_addReference_25 : decode cX_addReference 25 = .ok (.iload_n 1, 1) := by decide +kernel
theorem dX_addReference_26 : decode cX_addReference 26 = .ok (.iconst 2, 1) := by decide +kernel
theorem dX_addReference_27 : decode cX_addReference 27 = .ok (.idiv, 1) := by decide +kernel
theorem dX_addReference_28 : decode cX_addReference 28 = .ok (.dup2, 1) := by decide +kernel
theorem dX_addReference_29 : decode cX_addReference 29 = .ok (.iaload, 1) := by decide +kernel
theorem dX_addReference_30 : decode cX_addReference 30 = .ok (.iconst 1, 1) := by decide +kernel
theorem dX_addReference_31 : decode cX_addReference 31 = .ok (.iadd, 1) := by decide +kernel
theorem dX_addReference_32 : decode cX_addReference 32 = .ok (.iastore, 1) := by decide +kernel
theorem dX_addReference_33 : decode cX_addReference 33 = .ok (.return_, 1) := by decide +kernel
theorem dX_dropReference_0 : decode cX_dropReference 0 = .ok (.aload_n 0, 1) := by decide +kernel
theorem dX_dropReference_1 : decode cX_dropReference 1 = .ok (.iload_n 1, 1) := by decide +kernel
theorem dX_dropReference_2 : decode cX_dropReference 2 = .ok (.invokevirtual 87, 3) := by decide +kernel
theorem dX_dropReference_5 : decode cX_dropReference 5 = .ok (.ifCond .eq 16, 3) := by decide +kernel
theorem dX_dropReference_8 : decode cX_dropReference 8 = .ok (.aload_n 0, 1) := by decide +kernel
theorem dX_dropReference_9 : decode cX_dropReference 9 = .ok (.getfield 25, 3) := by decide +kernel
theorem dX_dropReference_12 : decode cX_dropReference 12 = .ok (.iload_n 1, 1) := by decide +kernel
theorem dX_dropReference_13 : decode cX_dropReference 13 = .ok (.iconst 2, 1) := by decide +kernel
theorem dX_dropReference_14 : decode cX_dropReference 14 = .ok (.idiv, 1) := by decide +kernel
theorem dX_dropReference_15 : decode cX_dropReference 15 = .ok (.iaload, 1) := by decide +kernel
theorem dX_dropReference_16 : decode cX_dropReference 16 = .ok (.bipush 7, 2) := by decide +kernel
theorem dX_dropReference_18 : decode cX_dropReference 18 = .ok (.if_icmp .ne 4, 3) := by decide +kernel
theorem dX_dropReference_21 : decode cX_dropReference 21 = .ok (.return_, 1) := by decide +kernel
theorem dX_dropReference_22 : decode cX_dropReference 22 = .ok (.aload_n 0, 1) := by decide +kernel
theorem dX_dropReference_23 : decode cX_dropReference 23 = .ok (.getfield 25, 3) := by decide +kernel
theorem dX_dropReference_26 : decode cX_dropReference 26 = .ok (.iload_n 1, 1) := by decide +kernel
theorem dX_dropReference_27 : decode cX_dropReference 27 = .ok (.iconst 2, 1) := by decide +kernel
theorem dX_dropReference_28 : decode cX_dropReference 28 = .ok (.idiv, 1) := by decide +kernel
theorem dX_dropReference_29 : decode cX_dropReference 29 = .ok (.dup2, 1) := by decide +kernel
theorem dX_dropReference_30 : decode cX_dropReference 30 = .ok (.iaload, 1) := by decide +kernel
theorem dX_dropReference_31 : decode cX_dropReference 31 = .ok (.iconst 1, 1) := by decide +kernel
theorem dX_dropReference_32 : decode cX_dropReference 32 = .ok (.isub, 1) := by decide +kernel
theorem dX_dropReference_33 : decode cX_dropReference 33 = .ok (.iastore, 1) := by decide +kernel
theorem dX_dropReference_34 : decode cX_dropReference 34 = .ok (.aload_n 0, 1) := by decide +kernel
theorem dX_dropReference_35 : decode cX_dropReference 35 = .ok (.getfield 25, 3) := by decide +kernel
theorem dX_dropReference_38 : decode cX_dropReference 38 = .ok (.iload_n 1, 1) := by decide +kernel
theorem dX_dropReference_39 : decode cX_dropReference 39 = .ok (.iconst 2, 1) := by decide +kernel
theorem dX_dropReference_40 : decode cX_dropReference 40 = .ok (.idiv, 1) := by decide +kernel
theorem dX_dropReference_41 : decode cX_dropReference 41 = .ok (.iaload, 1) := by decide +kernel
theorem dX_dropReference_42 : decode cX_dropReference 42 = .ok (.ifCond .ne 11, 3) := by decide +kernel
theorem dX_dropReference_45 : decode cX_dropReference 45 = .ok (.aload_n 0, 1) := by decide +kernel
theorem dX_dropReference_46 : decode cX_dropReference 46 = .ok (.iload_n 1, 1) := by decide +kernel
theorem dX_dropReference_47 : decode cX_dropReference 47 = .ok (.iconst 2, 1) := by decide +kernel
theorem dX_dropReference_48 : decode cX_dropReference 48 = .ok (.idiv, 1) := by decide +kernel
theorem dX_dropReference_49 : decode cX_dropReference 49 = .ok (.iload_n 2, 1) := by decide +kernel
theorem dX_dropReference_50 : decode cX_dropReference 50 = .ok (.invokevirtual 123, 3) := by decide +kernel
theorem dX_dropReference_53 : decode cX_dropReference 53 = .ok (.return_, 1) := by decide +kernel
theorem dX_letGo_0 : decode cX_letGo 0 = .ok (.iload_n 2, 1) := by decide +kernel
theorem dX_letGo_1 : decode cX_letGo 1 = .ok (.bipush 40, 2) := by decide +kernel
theorem dX_letGo_3 : decode cX_letGo 3 = .ok (.if_icmp .lt 4, 3) := by decide +kernel
theorem dX_letGo_6 : decode cX_letGo 6 = .ok (.return_, 1) := by decide +kernel
theorem dX_letGo_7 : decode cX_letGo 7 = .ok (.aload_n 0, 1) := by decide +kernel
theorem dX_letGo_8 : decode cX_letGo 8 = .ok (.getfield 22, 3) := by decide +kernel
theorem dX_letGo_11 : decode cX_letGo 11 = .ok (.iload_n 1, 1) := by decide +kernel
theorem dX_letGo_12 : decode cX_letGo 12 = .ok (.iaload, 1) := by decide +kernel
theorem dX_letGo_13 : decode cX_letGo 13 = .ok (.aload_n 0, 1) := by decide +kernel
theorem dX_letGo_14 : decode cX_letGo 14 = .ok (.iload_n 1, 1) := by decide +kernel
theorem dX_letGo_15 : decode cX_letGo 15 = .ok (.invokevirtual 126, 3) := by decide +kernel
theorem dX_letGo_18 : decode cX_letGo 18 = .ok (.iadd, 1) := by decide +kernel
theorem dX_letGo_19 : decode cX_letGo 19 = .ok (.istore_n 3, 1) := by decide +kernel
theorem dX_letGo_20 : decode cX_letGo 20 = .ok (.aload_n 0, 1) := by decide +kernel
theorem dX_letGo_21 : decode cX_letGo 21 = .ok (.getfield 22, 3) := by decide +kernel
theorem dX_letGo_24 : decode cX_letGo 24 = .ok (.iload_n 1, 1) := by decide +kernel
theorem dX_letGo_25 : decode cX_letGo 25 = .ok (.iaload, 1) := by decide +kernel
theorem dX_letGo_26 : decode cX_letGo 26 = .ok (.iconst 1, 1) := by decide +kernel
theorem dX_letGo_27 : decode cX_letGo 27 = .ok (.iadd, 1) := by decide +kernel
theorem dX_letGo_28 : decode cX_letGo 28 = .ok (.istore 4, 2) := by decide +kernel
theorem dX_letGo_30 : decode cX_letGo 30 = .ok (.iload 4, 2) := by decide +kernel
theorem dX_letGo_32 : decode cX_letGo 32 = .ok (.iload_n 3, 1) := by decide +kernel
theorem dX_letGo_33 : decode cX_letGo 33 = .ok (.if_icmp .ge 23, 3) := by decide +kernel
theorem dX_letGo_36 : decode cX_letGo 36 = .ok (.aload_n 0, 1) := by decide +kernel
theorem dX_letGo_37 : decode cX_letGo 37 = .ok (.aload_n 0, 1) := by decide +kernel
theorem dX_letGo_38 : decode cX_letGo 38 = .ok (.getfield 18, 3) := by decide +kernel
theorem dX_letGo_41 : decode cX_letGo 41 = .ok (.iload 4, 2) := by decide +kernel
theorem dX_letGo_43 : decode cX_letGo 43 = .ok (.iaload, 1) := by decide +kernel
theorem dX_letGo_44 : decode cX_letGo 44 = .ok (.iload_n 2, 1) := by decide +kernel
theorem dX_letGo_45 : decode cX_letGo 45 = .ok (.iconst 1, 1) := by decide +kernel
theorem dX_letGo_46 : decode cX_letGo 46 = .ok (.iadd, 1) := by decide +kernel
theorem dX_letGo_47 : decode cX_letGo 47 = .ok (.invokevirtual 100, 3) := by decide +kernel
theorem dX_letGo_50 : decode cX_letGo 50 = .ok (.iinc 4 1, 3) := by decide +kernel
theorem dX_letGo_53 : decode cX_letGo 53 = .ok (.goto (-23), 3) := by decide +kernel
theorem dX_letGo_56 : decode cX_letGo 56 = .ok (.aload_n 0, 1) := by decide +kernel
theorem dX_letGo_57 : decode cX_letGo 57 = .ok (.iload_n 1, 1) := by decide +kernel
theorem dX_letGo_58 : decode cX_letGo 58 = .ok (.invokevirtual 129, 3) := by decide +kernel
theorem dX_letGo_61 : decode cX_letGo 61 = .ok (.return_, 1) := by decide +kernel
theorem dX_freeEntry_0 : decode cX_freeEntry 0 = .ok (.aload_n 0, 1) := by decide +kernel
theorem dX_freeEntry_1 : decode cX_freeEntry 1 = .ok (.getfield 36, 3) := by decide +kernel
theorem dX_freeEntry_4 : decode cX_freeEntry 4 = .ok (.aload_n 0, 1) := by decide +kernel
theorem dX_freeEntry_5 : decode cX_freeEntry 5 = .ok (.getfield 22, 3) := by decide +kernel
theorem dX_freeEntry_8 : decode cX_freeEntry 8 = .ok (.iload_n 1, 1) := by decide +kernel
theorem dX_freeEntry_9 : decode cX_freeEntry 9 = .ok (.iaload, 1) := by decide +kernel
theorem dX_freeEntry_10 : decode cX_freeEntry 10 = .ok (.aload_n 0, 1) := by decide +kernel
theorem dX_freeEntry_11 : decode cX_freeEntry 11 = .ok (.iload_n 1, 1) := by decide +kernel
theorem dX_freeEntry_12 : decode cX_freeEntry 12 = .ok (.invokevirtual 126, 3) := by decide +kernel
theorem dX_freeEntry_15 : decode cX_freeEntry 15 = .ok (.invokevirtual 132, 3) := by decide +kernel
theorem dX_freeEntry_18 : decode cX_freeEntry 18 = .ok (.aload_n 0, 1) := by decide +kernel
theorem dX_freeEntry_19 : decode cX_freeEntry 19 = .ok (.getfield 22, 3) := by decide +kernel
theorem dX_freeEntry_22 : decode cX_freeEntry 22 = .ok (.iload_n 1, 1) := by decide +kernel
theorem dX_freeEntry_23 : decode cX_freeEntry 23 = .ok (.iconst (-1), 1) := by decide +kernel
theorem dX_freeEntry_24 : decode cX_freeEntry 24 = .ok (.iastore, 1) := by decide +kernel
theorem dX_freeEntry_25 : decode cX_freeEntry 25 = .ok (.return_, 1) := by decide +kernel
theorem dX_findRoom_0 : decode cX_findRoom 0 = .ok (.iconst 0, 1) := by decide +kernel
theorem dX_findRoom_1 : decode cX_findRoom 1 = .ok (.istore_n 3, 1) := by decide +kernel
theorem dX_findRoom_2 : decode cX_findRoom 2 = .ok (.aload_n 0, 1) := by decide +kernel
theorem dX_findRoom_3 : decode cX_findRoom 3 = .ok (.invokevirtual 73, 3) := by decide +kernel
theorem dX_findRoom_6 : decode cX_findRoom 6 = .ok (.ifCond .ne 20, 3) := by decide +kernel
theorem dX_findRoom_9 : decode cX_findRoom 9 = .ok (.aload_n 0, 1) := by decide +kernel
theorem dX_findRoom_10 : decode cX_findRoom 10 = .ok (.iload_n 2, 1) := by decide +kernel
theorem dX_findRoom_11 : decode cX_findRoom 11 = .ok (.invokevirtual 104, 3) := by decide +kernel
theorem dX_findRoom_14 : decode cX_findRoom 14 = .ok (.pop, 1) := by decide +kernel
theorem dX_findRoom_15 : decode cX_findRoom 15 = .ok (.iconst 1, 1) := by decide +kernel
theorem dX_findRoom_16 : decode cX_findRoom 16 = .ok (.istore_n 3, 1) := by decide +kernel
theorem dX_findRoom_17 : decode cX_findRoom 17 = .ok (.aload_n 0, 1) := by decide +kernel
theorem dX_findRoom_18 : decode cX_findRoom 18 = .ok (.invokevirtual 73, 3) := by decide +kernel
theorem dX_findRoom_21 : decode cX_findRoom 21 = .ok (.ifCond .ne 5, 3) := by decide +kernel
theorem dX_findRoom_24 : decode cX_findRoom 24 = .ok (.iconst (-1), 1) := by decide +kernel
theorem dX_findRoom_25 : decode cX_findRoom 25 = .ok (.ireturn, 1) := by decide +kernel
theorem dX_findRoom_26 : decode cX_findRoom 26 = .ok (.aload_n 0, 1) := by decide +kernel
theorem dX_findRoom_27 : decode cX_findRoom 27 = .ok (.iload_n 1, 1) := by decide +kernel
theorem dX_findRoom_28 : decode cX_findRoom 28 = .ok (.invokevirtual 135, 3) := by decide +kernel
theorem dX_findRoom_31 : decode cX_findRoom 31 = .ok (.istore 4, 2) := by decide +kernel
theorem dX_findRoom_33 : decode cX_findRoom 33 = .ok (.iload 4, 2) := by decide +kernel
theorem dX_findRoom_35 : decode cX_findRoom 35 = .ok (.iconst (-1), 1) := by decide +kernel
theorem dX_findRoom_36 : decode cX_findRoom 36 = .ok (.if_icmp .ne 20, 3) := by decide +kernel
theorem dX_findRoom_39 : decode cX_findRoom 39 = .ok (.iload_n 3, 1) := by decide +kernel
theorem dX_findRoom_40 : decode cX_findRoom 40 = .ok (.ifCond .ne 16, 3) := by decide +kernel
theorem dX_findRoom_43 : decode cX_findRoom 43 = .ok (.aload_n 0, 1) := by decide +kernel
theorem dX_findRoom_44 : decode cX_findRoom 44 = .ok (.iload_n 2, 1) := by decide +kernel
theorem dX_findRoom_45 : decode cX_findRoom 45 = .ok (.invokevirtual 104, 3) := by decide +kernel
theorem dX_findRoom_48 : decode cX_findRoom 48 = .ok (.pop, 1) := by decide +kernel
theorem dX_findRoom_49 : decode cX_findRoom 49 = .ok (.aload_n 0, 1) := by decide +kernel
theorem dX_findRoom_50 : decode cX_findRoom 50 = .ok (.iload_n 1, 1) := by decide +kernel
theorem dX_findRoom_51 : decode cX_findRoom 51 = .ok (.invokevirtual 135, 3) := by decide +kernel
theorem dX_findRoom_54 : decode cX_findRoom 54 = .ok (.istore 4, 2) := by decide +kernel
theorem dX_findRoom_56 : decode cX_findRoom 56 = .ok (.iload 4, 2) := by decide +kernel
theorem dX_findRoom_58 : decode cX_findRoom 58 = .ok (.ireturn, 1) := by decide +kernel
theorem dX_place_0 : decode cX_place 0 = .ok (.aload_n 0, 1) := by decide +kernel
theorem dX_place_1 : decode cX_place 1 = .ok (.getfield 36, 3) := by decide +kernel
theorem dX_place_4 : decode cX_place 4 = .ok (.iload_n 1, 1) := by decide +kernel
theorem dX_place_5 : decode cX_place 5 = .ok (.invokevirtual 138, 3) := by decide +kernel
theorem dX_place_8 : decode cX_place 8 = .ok (.istore_n 2, 1) := by decide +kernel
theorem dX_place_9 : decode cX_place 9 = .ok (.iload_n 2, 1) := by decide +kernel
theorem dX_place_10 : decode cX_place 10 = .ok (.iconst (-1), 1) := by decide +kernel
theorem dX_place_11 : decode cX_place 11 = .ok (.if_icmp .ne 28, 3) := by decide +kernel
theorem dX_place_14 : decode cX_place 14 = .ok (.aload_n 0, 1) := by decide +kernel
theorem dX_place_15 : decode cX_place 15 = .ok (.getfield 36, 3) := by decide +kernel
theorem dX_place_18 : decode cX_place 18 = .ok (.invokevirtual 117, 3) := by decide +kernel
theorem dX_place_21 : decode cX_place 21 = .ok (.iload_n 1, 1) := by decide +kernel
theorem dX_place_22 : decode cX_place 22 = .ok (.if_icmp .lt 17, 3) := by decide +kernel
theorem dX_place_25 : decode cX_place 25 = .ok (.aload_n 0, 1) := by decide +kernel
theorem dX_place_26 : decode cX_place 26 = .ok (.invokevirtual 108, 3) := by decide +kernel
theorem dX_place_29 : decode cX_place 29 = .ok (.pop, 1) := by decide +kernel
theorem dX_place_30 : decode cX_place 30 = .ok (.aload_n 0, 1) := by decide +kernel
theorem dX_place_31 : decode cX_place 31 = .ok (.getfield 36, 3) := by decide +kernel
theorem dX_place_34 : decode cX_place 34 = .ok (.iload_n 1, 1) := by decide +kernel
theorem dX_place_35 : decode cX_place 35 = .ok (.invokevirtual 138, 3) := by decide +kernel
theorem dX_place_38 : decode cX_place 38 = .ok (.istore_n 2, 1) := by decide +kernel
theorem dX_place_39 : decode cX_place 39 = .ok (.iload_n 2, 1) := by decide +kernel
theorem dX_place_40 : decode cX_place 40 = .ok (.ireturn, 1) := by decide +kernel
theorem dX_moveTogether_0 : decode cX_moveTogether 0 = .ok (.iconst 0, 1) := by decide +kernel
theorem dX_moveTogether_1 : decode cX_moveTogether 1 = .ok (.istore_n 1, 1) := by decide +kernel
theorem dX_moveTogether_2 : decode cX_moveTogether 2 = .ok (.iconst 0, 1) := by decide +kernel
theorem dX_moveTogether_3 : decode cX_moveTogether 3 = .ok (.istore_n 2, 1) := by decide +kernel
theorem dX_moveTogether_4 : decode cX_moveTogether 4 = .ok (.iconst 1, 1) := by decide +kernel
theorem dX_moveTogether_5 : decode cX_moveTogether 5 = .ok (.istore_n 3, 1) := by decide +kernel
theorem dX_moveTogether_6 : decode cX_moveTogether 6 = .ok (.iload_n 3, 1) := by decide +kernel
theorem dX_moveTogether_7 : decode cX_moveTogether 7 = .ok (.aload_n 0, 1) := by decide +kernel
theorem dX_moveTogether_8 : decode cX_moveTogether 8 = .ok (.getfield 22, 3) := by decide +kernel
theorem dX_moveTogether_11 : decode cX_moveTogether 11 = .ok (.arraylength, 1) := by decide +kernel
theorem dX_moveTogether_12 : decode cX_moveTogether 12 = .ok (.if_icmp .ge 80, 3) := by decide +kernel
theorem dX_moveTogether_15 : decode cX_moveTogether 15 = .ok (.aload_n 0, 1) := by decide +kernel
theorem dX_moveTogether_16 : decode cX_moveTogether 16 = .ok (.iload_n 2, 1) := by decide +kernel
theorem dX_moveTogether_17 : decode cX_moveTogether 17 = .ok (.invokevirtual 141, 3) := by decide +kernel
theorem dX_moveTogether_20 : decode cX_moveTogether 20 = .ok (.istore 4, 2) := by decide +kernel
theorem dX_moveTogether_22 : decode cX_moveTogether 22 = .ok (.iload 4, 2) := by decide +kernel
theorem dX_moveTogether_24 : decode cX_moveTogether 24 = .ok (.ifCond .ne 6, 3) := by decide +kernel
theorem dX_moveTogether_27 : decode cX_moveTogether 27 = .ok (.goto 65, 3) := by decide +kernel
theorem dX_moveTogether_30 : decode cX_moveTogether 30 = .ok (.aload_n 0, 1) := by decide +kernel
theorem dX_moveTogether_31 : decode cX_moveTogether 31 = .ok (.iload 4, 2) := by decide +kernel
theorem dX_moveTogether_33 : decode cX_moveTogether 33 = .ok (.invokevirtual 126, 3) := by decide +kernel
theorem dX_moveTogether_36 : decode cX_moveTogether 36 = .ok (.istore 5, 2) := by decide +kernel
theorem dX_moveTogether_38 : decode cX_moveTogether 38 = .ok (.aload_n 0, 1) := by decide +kernel
theorem dX_moveTogether_39 : decode cX_moveTogether 39 = .ok (.getfield 22, 3) := by decide +kernel
theorem dX_moveTogether_42 : decode cX_moveTogether 42 = .ok (.iload 4, 2) := by decide +kernel
theorem dX_moveTogether_44 : decode cX_moveTogether 44 = .ok (.iaload, 1) := by decide +kernel
theorem dX_moveTogether_45 : decode cX_moveTogether 45 = .ok (.iload_n 2, 1) := by decide +kernel
theorem dX_moveTogether_46 : decode cX_moveTogether 46 = .ok (.if_icmp .eq 35, 3) := by decide +kernel
theorem dX_moveTogether_49 : decode cX_moveTogether 49 = .ok (.aload_n 0, 1) := by decide +kernel
theorem dX_moveTogether_50 : decode cX_moveTogether 50 = .ok (.getfield 18, 3) := by decide +kernel
theorem dX_moveTogether_53 : decode cX_moveTogether 53 = .ok (.aload_n 0, 1) := by decide +kernel
theorem dX_moveTogether_54 : decode cX_moveTogether 54 = .ok (.getfield 22, 3) := by decide +kernel
theorem dX_moveTogether_57 : decode cX_moveTogether 57 = .ok (.iload 4, 2) := by decide +kernel
theorem dX_moveTogether_59 : decode cX_moveTogether 59 = .ok (.iaload, 1) := by decide +kernel
theorem dX_moveTogether_60 : decode cX_moveTogether 60 = .ok (.aload_n 0, 1) := by decide +kernel
theorem dX_moveTogether_61 : decode cX_moveTogether 61 = .ok (.getfield 18, 3) := by decide +kernel
theorem dX_moveTogether_64 : decode cX_moveTogether 64 = .ok (.iload_n 2, 1) := by decide +kernel
theorem dX_moveTogether_65 : decode cX_moveTogether 65 = .ok (.iload 5, 2) := by decide +kernel
theorem dX_moveTogether_67 : decode cX_moveTogether 67 = .ok (.invokestatic 144, 3) := by decide +kernel
theorem dX_moveTogether_70 : decode cX_moveTogether 70 = .ok (.aload_n 0, 1) := by decide +kernel
theorem dX_moveTogether_71 : decode cX_moveTogether 71 = .ok (.getfield 22, 3) := by decide +kernel
theorem dX_moveTogether_74 : decode cX_moveTogether 74 = .ok (.iload 4, 2) := by decide +kernel
theorem dX_moveTogether_76 : decode cX_moveTogether 76 = .ok (.iload_n 2, 1) := by decide +kernel
theorem dX_moveTogether_77 : decode cX_moveTogether 77 = .ok (.iastore, 1) := by decide +kernel
theorem dX_moveTogether_78 : decode cX_moveTogether 78 = .ok (.iinc 1 1, 3) := by decide +kernel
theorem dX_moveTogether_81 : decode cX_moveTogether 81 = .ok (.iload_n 2, 1) := by decide +kernel
theorem dX_moveTogether_82 : decode cX_moveTogether 82 = .ok (.iload 5, 2) := by decide +kernel
theorem dX_moveTogether_84 : decode cX_moveTogether 84 = .ok (.iadd, 1) := by decide +kernel
theorem dX_moveTogether_85 : decode cX_moveTogether 85 = .ok (.istore_n 2, 1) := by decide +kernel
theorem dX_moveTogether_86 : decode cX_moveTogether 86 = .ok (.iinc 3 1, 3) := by decide +kernel
theorem dX_moveTogether_89 : decode cX_moveTogether 89 = .ok (.goto (-83), 3) := by decide +kernel
theorem dX_moveTogether_92 : decode cX_moveTogether 92 = .ok (.aload_n 0, 1) := by decide +kernel
theorem dX_moveTogether_93 : decode cX_moveTogether 93 = .ok (.getfield 36, 3) := by decide +kernel
theorem dX_moveTogether_96 : decode cX_moveTogether 96 = .ok (.invokevirtual 150, 3) := by decide +kernel
theorem dX_moveTogether_99 : decode cX_moveTogether 99 = .ok (.iload_n 2, 1) := by decide +kernel
theorem dX_moveTogether_100 : decode cX_moveTogether 100 = .ok (.aload_n 0, 1) := by decide +kernel
theorem dX_moveTogether_101 : decode cX_moveTogether 101 = .ok (.getfield 18, 3) := by decide +kernel
theorem dX_moveTogether_104 : decode cX_moveTogether 104 = .ok (.arraylength, 1) := by decide +kernel
theorem dX_moveTogether_105 : decode cX_moveTogether 105 = .ok (.if_icmp .ge 18, 3) := by decide +kernel
theorem dX_moveTogether_108 : decode cX_moveTogether 108 = .ok (.aload_n 0, 1) := by decide +kernel
theorem dX_moveTogether_109 : decode cX_moveTogether 109 = .ok (.getfield 36, 3) := by decide +kernel
theorem dX_moveTogether_112 : decode cX_moveTogether 112 = .ok (.iload_n 2, 1) := by decide +kernel
theorem dX_moveTogether_113 : decode cX_moveTogether 113 = .ok (.aload_n 0, 1) := by decide +kernel
theorem dX_moveTogether_114 : decode cX_moveTogether 114 = .ok (.getfield 18, 3) := by decide +kernel
theorem dX_moveTogether_117 : decode cX_moveTogether 117 = .ok (.arraylength, 1) := by decide +kernel
theorem dX_moveTogether_118 : decode cX_moveTogether 118 = .ok (.iload_n 2, 1) := by decide +kernel
theorem dX_moveTogether_119 : decode cX_moveTogether 119 = .ok (.isub, 1) := by decide +kernel
theorem dX_moveTogether_120 : decode cX_moveTogether 120 = .ok (.invokevirtual 132, 3) := by decide +kernel
theorem dX_moveTogether_123 : decode cX_moveTogether 123 = .ok (.iload_n 1, 1) := by decide +kernel
theorem dX_moveTogether_124 : decode cX_moveTogether 124 = .ok (.ireturn, 1) := by decide +kernel
theorem dX_lowestFrom_0 : decode cX_lowestFrom 0 = .ok (.iconst 0, 1) := by decide +kernel
theorem dX_lowestFrom_1 : decode cX_lowestFrom 1 = .ok (.istore_n 2, 1) := by decide +kernel
theorem dX_lowestFrom_2 : decode cX_lowestFrom 2 = .ok (.iconst 1, 1) := by decide +kernel
theorem dX_lowestFrom_3 : decode cX_lowestFrom 3 = .ok (.istore_n 3, 1) := by decide +kernel
theorem dX_lowestFrom_4 : decode cX_lowestFrom 4 = .ok (.iload_n 3, 1) := by decide +kernel
theorem dX_lowestFrom_5 : decode cX_lowestFrom 5 = .ok (.aload_n 0, 1) := by decide +kernel
theorem dX_lowestFrom_6 : decode cX_lowestFrom 6 = .ok (.getfield 22, 3) := by decide +kernel
theorem dX_lowestFrom_9 : decode cX_lowestFrom 9 = .ok (.arraylength, 1) := by decide +kernel
theorem dX_lowestFrom_10 : decode cX_lowestFrom 10 = .ok (.if_icmp .ge 60, 3) := by decide +kernel
theorem dX_lowestFrom_13 : decode cX_lowestFrom 13 = .ok (.aload_n 0, 1) := by decide +kernel
theorem dX_lowestFrom_14 : decode cX_lowestFrom 14 = .ok (.iload_n 3, 1) := by decide +kernel
theorem dX_lowestFrom_15 : decode cX_lowestFrom 15 = .ok (.invokevirtual 120, 3) := by decide +kernel
theorem dX_lowestFrom_18 : decode cX_lowestFrom 18 = .ok (.ifCond .eq 17, 3) := by decide +kernel
theorem dX_lowestFrom_21 : decode cX_lowestFrom 21 = .ok (.aload_n 0, 1) := by decide +kernel
theorem dX_lowestFrom_22 : decode cX_lowestFrom 22 = .ok (.getfield 22, 3) := by decide +kernel
theorem dX_lowestFrom_25 : decode cX_lowestFrom 25 = .ok (.iload_n 3, 1) := by decide +kernel
theorem dX_lowestFrom_26 : decode cX_lowestFrom 26 = .ok (.iaload, 1) := by decide +kernel
theorem dX_lowestFrom_27 : decode cX_lowestFrom 27 = .ok (.iload_n 1, 1) := by decide +kernel
theorem dX_lowestFrom_28 : decode cX_lowestFrom 28 = .ok (.if_icmp .lt 7, 3) := by decide +kernel
theorem dX_lowestFrom_31 : decode cX_lowestFrom 31 = .ok (.iconst 1, 1) := by decide +kernel
theorem dX_lowestFrom_32 : decode cX_lowestFrom 32 = .ok (.goto 4, 3) := by decide +kernel
theorem dX_lowestFrom_35 : decode cX_lowestFrom 35 = .ok (.iconst 0, 1) := by decide +kernel
theorem dX_lowestFrom_36 : decode cX_lowestFrom 36 = .ok (.istore 4, 2) := by decide +kernel
theorem dX_lowestFrom_38 : decode cX_lowestFrom 38 = .ok (.iload 4, 2) := by decide +kernel
theorem dX_lowestFrom_40 : decode cX_lowestFrom 40 = .ok (.ifCond .eq 24, 3) := by decide +kernel
theorem dX_lowestFrom_43 : decode cX_lowestFrom 43 = .ok (.iload_n 2, 1) := by decide +kernel
theorem dX_lowestFrom_44 : decode cX_lowestFrom 44 = .ok (.ifCond .eq 18, 3) := by decide +kernel
theorem dX_lowestFrom_47 : decode cX_lowestFrom 47 = .ok (.aload_n 0, 1) := by decide +kernel
theorem dX_lowestFrom_48 : decode cX_lowestFrom 48 = .ok (.getfield 22, 3) := by decide +kernel
theorem dX_lowestFrom_51 : decode cX_lowestFrom 51 = .ok (.iload_n 3, 1) := by decide +kernel
theorem dX_lowestFrom_52 : decode cX_lowestFrom 52 = .ok (.iaload, 1) := by decide +kernel
theorem dX_lowestFrom_53 : decode cX_lowestFrom 53 = .ok (.aload_n 0, 1) := by decide +kernel
theorem dX_lowestFrom_54 : decode cX_lowestFrom 54 = .ok (.getfield 22, 3) := by decide +kernel
theorem dX_lowestFrom_57 : decode cX_lowestFrom 57 = .ok (.iload_n 2, 1) := by decide +kernel
theorem dX_lowestFrom_58 : decode cX_lowestFrom 58 = .ok (.iaload, 1) := by decide +kernel
theorem dX_lowestFrom_59 : decode cX_lowestFrom 59 = .ok (.if_icmp .ge 5, 3) := by decide +kernel
theorem dX_lowestFrom_62 : decode cX_lowestFrom 62 = .ok (.iload_n 3, 1) := by decide +kernel
theorem dX_lowestFrom_63 : decode cX_lowestFrom 63 = .ok (.istore_n 2, 1) := by decide +kernel
theorem dX_lowestFrom_64 : decode cX_lowestFrom 64 = .ok (.iinc 3 1, 3) := by decide +kernel
theorem dX_lowestFrom_67 : decode cX_lowestFrom 67 = .ok (.goto (-63), 3) := by decide +kernel
theorem dX_lowestFrom_70 : decode cX_lowestFrom 70 = .ok (.iload_n 2, 1) := by decide +kernel
theorem dX_lowestFrom_71 : decode cX_lowestFrom 71 = .ok (.ireturn, 1) := by decide +kernel
theorem dX_takeUnreached_0 : decode cX_takeUnreached 0 = .ok (.aload_n 0, 1) := by decide +kernel
theorem dX_takeUnreached_1 : decode cX_takeUnreached 1 = .ok (.iload_n 1, 1) := by decide +kernel
theorem dX_takeUnreached_2 : decode cX_takeUnreached 2 = .ok (.invokevirtual 153, 3) := by decide +kernel
theorem dX_takeUnreached_5 : decode cX_takeUnreached 5 = .ok (.iconst 0, 1) := by decide +kernel
theorem dX_takeUnreached_6 : decode cX_takeUnreached 6 = .ok (.istore_n 2, 1) := by decide +kernel
theorem dX_takeUnreached_7 : decode cX_takeUnreached 7 = .ok (.iconst 1, 1) := by decide +kernel
theorem dX_takeUnreached_8 : decode cX_takeUnreached 8 = .ok (.istore_n 3, 1) := by decide +kernel
theorem dX_takeUnreached_9 : decode cX_takeUnreached 9 = .ok (.iload_n 3, 1) := by decide +kernel
theorem dX_takeUnreached_10 : decode cX_takeUnreached 10 = .ok (.aload_n 0, 1) := by decide +kernel
theorem dX_takeUnreached_11 : decode cX_takeUnreached 11 = .ok (.getfield 22, 3) := by decide +kernel
theorem dX_takeUnreached_14 : decode cX_takeUnreached 14 = .ok (.arraylength, 1) := by decide +kernel
theorem dX_takeUnreached_15 : decode cX_takeUnreached 15 = .ok (.if_icmp .ge 34, 3) := by decide +kernel
theorem dX_takeUnreached_18 : decode cX_takeUnreached 18 = .ok (.aload_n 0, 1) := by decide +kernel
theorem dX_takeUnreached_19 : decode cX_takeUnreached 19 = .ok (.iload_n 3, 1) := by decide +kernel
theorem dX_takeUnreached_20 : decode cX_takeUnreached 20 = .ok (.invokevirtual 120, 3) := by decide +kernel
theorem dX_takeUnreached_23 : decode cX_takeUnreached 23 = .ok (.ifCond .eq 20, 3) := by decide +kernel
theorem dX_takeUnreached_26 : decode cX_takeUnreached 26 = .ok (.aload_n 0, 1) := by decide +kernel
theorem dX_takeUnreached_27 : decode cX_takeUnreached 27 = .ok (.getfield 40, 3) := by decide +kernel
theorem dX_takeUnreached_30 : decode cX_takeUnreached 30 = .ok (.iload_n 3, 1) := by decide +kernel
theorem dX_takeUnreached_31 : decode cX_takeUnreached 31 = .ok (.baload, 1) := by decide +kernel
theorem dX_takeUnreached_32 : decode cX_takeUnreached 32 = .ok (.ifCond .ne 11, 3) := by decide +kernel
theorem dX_takeUnreached_35 : decode cX_takeUnreached 35 = .ok (.aload_n 0, 1) := by decide +kernel
theorem dX_takeUnreached_36 : decode cX_takeUnreached 36 = .ok (.iload_n 3, 1) := by decide +kernel
theorem dX_takeUnreached_37 : decode cX_takeUnreached 37 = .ok (.invokevirtual 129, 3) := by decide +kernel
theorem dX_takeUnreached_40 : decode cX_takeUnreached 40 = .ok (.iinc 2 1, 3) := by decide +kernel
theorem dX_takeUnreached_43 : decode cX_takeUnreached 43 = .ok (.iinc 3 1, 3) := by decide +kernel
theorem dX_takeUnreached_46 : decode cX_takeUnreached 46 = .ok (.goto (-37), 3) := by decide +kernel
theorem dX_takeUnreached_49 : decode cX_takeUnreached 49 = .ok (.aload_n 0, 1) := by decide +kernel
theorem dX_takeUnreached_50 : decode cX_takeUnreached 50 = .ok (.invokevirtual 156, 3) := by decide +kernel
theorem dX_takeUnreached_53 : decode cX_takeUnreached 53 = .ok (.iload_n 2, 1) := by decide +kernel
theorem dX_takeUnreached_54 : decode cX_takeUnreached 54 = .ok (.ireturn, 1) := by decide +kernel
theorem dX_findReached_0 : decode cX_findReached 0 = .ok (.iconst 1, 1) := by decide +kernel
theorem dX_findReached_1 : decode cX_findReached 1 = .ok (.istore_n 2, 1) := by decide +kernel
theorem dX_findReached_2 : decode cX_findReached 2 = .ok (.iload_n 2, 1) := by decide +kernel
theorem dX_findReached_3 : decode cX_findReached 3 = .ok (.aload_n 0, 1) := by decide +kernel
theorem dX_findReached_4 : decode cX_findReached 4 = .ok (.getfield 40, 3) := by decide +kernel
theorem dX_findReached_7 : decode cX_findReached 7 = .ok (.arraylength, 1) := by decide +kernel
theorem dX_findReached_8 : decode cX_findReached 8 = .ok (.if_icmp .ge 16, 3) := by decide +kernel
theorem dX_findReached_11 : decode cX_findReached 11 = .ok (.aload_n 0, 1) := by decide +kernel
theorem dX_findReached_12 : decode cX_findReached 12 = .ok (.getfield 40, 3) := by decide +kernel
theorem dX_findReached_15 : decode cX_findReached 15 = .ok (.iload_n 2, 1) := by decide +kernel
theorem dX_findReached_16 : decode cX_findReached 16 = .ok (.iconst 0, 1) := by decide +kernel
theorem dX_findReached_17 : decode cX_findReached 17 = .ok (.bastore, 1) := by decide +kernel
theorem dX_findReached_18 : decode cX_findReached 18 = .ok (.iinc 2 1, 3) := by decide +kernel
theorem dX_findReached_21 : decode cX_findReached 21 = .ok (.goto (-19), 3) := by decide +kernel
theorem dX_findReached_24 : decode cX_findReached 24 = .ok (.aload_n 0, 1) := by decide +kernel
theorem dX_findReached_25 : decode cX_findReached 25 = .ok (.iconst 0, 1) := by decide +kernel
theorem dX_findReached_26 : decode cX_findReached 26 = .ok (.putfield 47, 3) := by decide +kernel
theorem dX_findReached_29 : decode cX_findReached 29 = .ok (.iconst 0, 1) := by decide +kernel
theorem dX_findReached_30 : decode cX_findReached 30 = .ok (.istore_n 2, 1) := by decide +kernel
theorem dX_findReached_31 : decode cX_findReached 31 = .ok (.iload_n 2, 1) := by decide +kernel
theorem dX_findReached_32 : decode cX_findReached 32 = .ok (.bipush 8, 2) := by decide +kernel
theorem dX_findReached_34 : decode cX_findReached 34 = .ok (.if_icmp .ge 19, 3) := by decide +kernel
theorem dX_findReached_37 : decode cX_findReached 37 = .ok (.aload_n 0, 1) := by decide +kernel
theorem dX_findReached_38 : decode cX_findReached 38 = .ok (.aload_n 0, 1) := by decide +kernel
theorem dX_findReached_39 : decode cX_findReached 39 = .ok (.getfield 28, 3) := by decide +kernel
theorem dX_findReached_42 : decode cX_findReached 42 = .ok (.iload_n 2, 1) := by decide +kernel
theorem dX_findReached_43 : decode cX_findReached 43 = .ok (.iaload, 1) := by decide +kernel
theorem dX_findReached_44 : decode cX_findReached 44 = .ok (.invokevirtual 159, 3) := by decide +kernel
theorem dX_findReached_47 : decode cX_findReached 47 = .ok (.iinc 2 1, 3) := by decide +kernel
theorem dX_findReached_50 : decode cX_findReached 50 = .ok (.goto (-19), 3) := by decide +kernel
theorem dX_findReached_53 : decode cX_findReached 53 = .ok (.aload_n 0, 1) := by decide +kernel
theorem dX_findReached_54 : decode cX_findReached 54 = .ok (.iload_n 1, 1) := by decide +kernel
theorem dX_findReached_55 : decode cX_findReached 55 = .ok (.invokevirtual 159, 3) := by decide +kernel
theorem dX_findReached_58 : decode cX_findReached 58 = .ok (.iconst 0, 1) := by decide +kernel
theorem dX_findReached_59 : decode cX_findReached 59 = .ok (.istore_n 2, 1) := by decide +kernel
theorem dX_findReached_60 : decode cX_findReached 60 = .ok (.iload_n 2, 1) := by decide +kernel
theorem dX_findReached_61 : decode cX_findReached 61 = .ok (.aload_n 0, 1) := by decide +kernel
theorem dX_findReached_62 : decode cX_findReached 62 = .ok (.getfield 47, 3) := by decide +kernel
theorem dX_findReached_65 : decode cX_findReached 65 = .ok (.if_icmp .ge 73, 3) := by decide +kernel
theorem dX_findReached_68 : decode cX_findReached 68 = .ok (.iload_n 2, 1) := by decide +kernel
theorem dX_findReached_69 : decode cX_findReached 69 = .ok (.aload_n 0, 1) := by decide +kernel
theorem dX_findReached_70 : decode cX_findReached 70 = .ok (.getfield 44, 3) := by decide +kernel
theorem dX_findReached_73 : decode cX_findReached 73 = .ok (.arraylength, 1) := by decide +kernel
theorem dX_findReached_74 : decode cX_findReached 74 = .ok (.if_icmp .ge 64, 3) := by decide +kernel
theorem dX_findReached_77 : decode cX_findReached 77 = .ok (.aload_n 0, 1) := by decide +kernel
theorem dX_findReached_78 : decode cX_findReached 78 = .ok (.getfield 44, 3) := by decide +kernel
theorem dX_findReached_81 : decode cX_findReached 81 = .ok (.iload_n 2, 1) := by decide +kernel
theorem dX_findReached_82 : decode cX_findReached 82 = .ok (.iaload, 1) := by decide +kernel
theorem dX_findReached_83 : decode cX_findReached 83 = .ok (.istore_n 3, 1) := by decide +kernel
theorem dX_findReached_84 : decode cX_findReached 84 = .ok (.aload_n 0, 1) := by decide +kernel
theorem dX_findReached_85 : decode cX_findReached 85 = .ok (.getfield 22, 3) := by decide +kernel
theorem dX_findReached_88 : decode cX_findReached 88 = .ok (.iload_n 3, 1) := by decide +kernel
theorem dX_findReached_89 : decode cX_findReached 89 = .ok (.iaload, 1) := by decide +kernel
theorem dX_findReached_90 : decode cX_findReached 90 = .ok (.aload_n 0, 1) := by decide +kernel
theorem dX_findReached_91 : decode cX_findReached 91 = .ok (.iload_n 3, 1) := by decide +kernel
theorem dX_findReached_92 : decode cX_findReached 92 = .ok (.invokevirtual 126, 3) := by decide +kernel
theorem dX_findReached_95 : decode cX_findReached 95 = .ok (.iadd, 1) := by decide +kernel
theorem dX_findReached_96 : decode cX_findReached 96 = .ok (.istore 4, 2) := by decide +kernel
theorem dX_findReached_98 : decode cX_findReached 98 = .ok (.aload_n 0, 1) := by decide +kernel
theorem dX_findReached_99 : decode cX_findReached 99 = .ok (.getfield 22, 3) := by decide +kernel
theorem dX_findReached_102 : decode cX_findReached 102 = .ok (.iload_n 3, 1) := by decide +kernel
theorem dX_findReached_103 : decode cX_findReached 103 = .ok (.iaload, 1) := by decide +kernel
theorem dX_findReached_104 : decode cX_findReached 104 = .ok (.iconst 1, 1) := by decide +kernel
theorem dX_findReached_105 : decode cX_findReached 105 = .ok (.iadd, 1) := by decide +kernel
theorem dX_findReached_106 : decode cX_findReached 106 = .ok (.istore 5, 2) := by decide +kernel
theorem dX_findReached_108 : decode cX_findReached 108 = .ok (.iload 5, 2) := by decide +kernel
theorem dX_findReached_110 : decode cX_findReached 110 = .ok (.iload 4, 2) := by decide +kernel
theorem dX_findReached_112 : decode cX_findReached 112 = .ok (.if_icmp .ge 20, 3) := by decide +kernel
theorem dX_findReached_115 : decode cX_findReached 115 = .ok (.aload_n 0, 1) := by decide +kernel
theorem dX_findReached_116 : decode cX_findReached 116 = .ok (.aload_n 0, 1) := by decide +kernel
theorem dX_findReached_117 : decode cX_findReached 117 = .ok (.getfield 18, 3) := by decide +kernel
theorem dX_findReached_120 : decode cX_findReached 120 = .ok (.iload 5, 2) := by decide +kernel
theorem dX_findReached_122 : decode cX_findReached 122 = .ok (.iaload, 1) := by decide +kernel
theorem dX_findReached_123 : decode cX_findReached 123 = .ok (.invokevirtual 159, 3) := by decide +kernel
theorem dX_findReached_126 : decode cX_findReached 126 = .ok (.iinc 5 1, 3) := by decide +kernel
theorem dX_findReached_129 : decode cX_findReached 129 = .ok (.goto (-21), 3) := by decide +kernel
theorem dX_findReached_132 : decode cX_findReached 132 = .ok (.iinc 2 1, 3) := by decide +kernel
theorem dX_findReached_135 : decode cX_findReached 135 = .ok (.goto (-75), 3) := by decide +kernel
theorem dX_findReached_138 : decode cX_findReached 138 = .ok (.return_, 1) := by decide +kernel
theorem dX_reach_0 : decode cX_reach 0 = .ok (.aload_n 0, 1) := by decide +kernel
theorem dX_reach_1 : decode cX_reach 1 = .ok (.iload_n 1, 1) := by decide +kernel
theorem dX_reach_2 : decode cX_reach 2 = .ok (.invokevirtual 87, 3) := by decide +kernel
theorem dX_reach_5 : decode cX_reach 5 = .ok (.ifCond .eq 45, 3) := by decide +kernel
theorem dX_reach_8 : decode cX_reach 8 = .ok (.aload_n 0, 1) := by decide +kernel
theorem dX_reach_9 : decode cX_reach 9 = .ok (.getfield 40, 3) := by decide +kernel
theorem dX_reach_12 : decode cX_reach 12 = .ok (.iload_n 1, 1) := by decide +kernel
theorem dX_reach_13 : decode cX_reach 13 = .ok (.iconst 2, 1) := by decide +kernel
theorem dX_reach_14 : decode cX_reach 14 = .ok (.idiv, 1) := by decide +kernel
theorem dX_reach_15 : decode cX_reach 15 = .ok (.baload, 1) := by decide +kernel
theorem dX_reach_16 : decode cX_reach 16 = .ok (.ifCond .ne 34, 3) := by decide +kernel
theorem dX_reach_19 : decode cX_reach 19 = .ok (.aload_n 0, 1) := by decide +kernel
theorem dX_reach_20 : decode cX_reach 20 = .ok (.getfield 40, 3) := by decide +kernel
theorem dX_reach_23 : decode cX_reach 23 = .ok (.iload_n 1, 1) := by decide +kernel
theorem dX_reach_24 : decode cX_reach 24 = .ok (.iconst 2, 1) := by decide +kernel
theorem dX_reach_25 : decode cX_reach 25 = .ok (.idiv, 1) := by decide +kernel
theorem dX_reach_26 : decode cX_reach 26 = .ok (.iconst 1, 1) := by decide +kernel
theorem dX_reach_27 : decode cX_reach 27 = .ok (.bastore, 1) := by decide +kernel
theorem dX_reach_28 : decode cX_reach 28 = .ok (.aload_n 0, 1) := by decide +kernel
theorem dX_reach_29 : decode cX_reach 29 = .ok (.getfield 44, 3) := by decide +kernel
theorem dX_reach_32 : decode cX_reach 32 = .ok (.aload_n 0, 1) := by decide +kernel
theorem dX_reach_33 : decode cX_reach 33 = .ok (.getfield 47, 3) := by decide +kernel
theorem dX_reach_36 : decode cX_reach 36 = .ok (.iload_n 1, 1) := by decide +kernel
theorem dX_reach_37 : decode cX_reach 37 = .ok (.iconst 2, 1) := by decide +kernel
theorem dX_reach_38 : decode cX_reach 38 = .ok (.idiv, 1) := by decide +kernel
theorem dX_reach_39 : decode cX_reach 39 = .ok (.iastore, 1) := by decide +kernel
theorem dX_reach_40 : decode cX_reach 40 = .ok (.aload_n 0, 1) := by decide +kernel
theorem dX_reach_41 : decode cX_reach 41 = .ok (.dup, 1) := by decide +kernel
theorem dX_reach_42 : decode cX_reach 42 = .ok (.getfield 47, 3) := by decide +kernel
theorem dX_reach_45 : decode cX_reach 45 = .ok (.iconst 1, 1) := by decide +kernel
theorem dX_reach_46 : decode cX_reach 46 = .ok (.iadd, 1) := by decide +kernel
theorem dX_reach_47 : decode cX_reach 47 = .ok (.putfield 47, 3) := by decide +kernel
theorem dX_reach_50 : decode cX_reach 50 = .ok (.return_, 1) := by decide +kernel
theorem dX_countAnew_0 : decode cX_countAnew 0 = .ok (.aload_n 0, 1) := by decide +kernel
theorem dX_countAnew_1 : decode cX_countAnew 1 = .ok (.getfield 25, 3) := by decide +kernel
theorem dX_countAnew_4 : decode cX_countAnew 4 = .ok (.iconst 0, 1) := by decide +kernel
theorem dX_countAnew_5 : decode cX_countAnew 5 = .ok (.invokestatic 51, 3) := by decide +kernel
theorem dX_countAnew_8 : decode cX_countAnew 8 = .ok (.iconst 0, 1) := by decide +kernel
theorem dX_countAnew_9 : decode cX_countAnew 9 = .ok (.istore_n 1, 1) := by decide +kernel
theorem dX_countAnew_10 : decode cX_countAnew 10 = .ok (.iload_n 1, 1) := by decide +kernel
theorem dX_countAnew_11 : decode cX_countAnew 11 = .ok (.bipush 8, 2) := by decide +kernel
theorem dX_countAnew_13 : decode cX_countAnew 13 = .ok (.if_icmp .ge 19, 3) := by decide +kernel
theorem dX_countAnew_16 : decode cX_countAnew 16 = .ok (.aload_n 0, 1) := by decide +kernel
theorem dX_countAnew_17 : decode cX_countAnew 17 = .ok (.aload_n 0, 1) := by decide +kernel
theorem dX_countAnew_18 : decode cX_countAnew 18 = .ok (.getfield 28, 3) := by decide +kernel
theorem dX_countAnew_21 : decode cX_countAnew 21 = .ok (.iload_n 1, 1) := by decide +kernel
theorem dX_countAnew_22 : decode cX_countAnew 22 = .ok (.iaload, 1) := by decide +kernel
theorem dX_countAnew_23 : decode cX_countAnew 23 = .ok (.invokevirtual 97, 3) := by decide +kernel
theorem dX_countAnew_26 : decode cX_countAnew 26 = .ok (.iinc 1 1, 3) := by decide +kernel
theorem dX_countAnew_29 : decode cX_countAnew 29 = .ok (.goto (-19), 3) := by decide +kernel
theorem dX_countAnew_32 : decode cX_countAnew 32 = .ok (.iconst 0, 1) := by decide +kernel
theorem dX_countAnew_33 : decode cX_countAnew 33 = .ok (.istore_n 1, 1) := by decide +kernel
theorem dX_countAnew_34 : decode cX_countAnew 34 = .ok (.iload_n 1, 1) := by decide +kernel
theorem dX_countAnew_35 : decode cX_countAnew 35 = .ok (.aload_n 0, 1) := by decide +kernel
theorem dX_countAnew_36 : decode cX_countAnew 36 = .ok (.getfield 47, 3) := by decide +kernel
theorem dX_countAnew_39 : decode cX_countAnew 39 = .ok (.if_icmp .ge 62, 3) := by decide +kernel
theorem dX_countAnew_42 : decode cX_countAnew 42 = .ok (.aload_n 0, 1) := by decide +kernel
theorem dX_countAnew_43 : decode cX_countAnew 43 = .ok (.getfield 44, 3) := by decide +kernel
theorem dX_countAnew_46 : decode cX_countAnew 46 = .ok (.iload_n 1, 1) := by decide +kernel
theorem dX_countAnew_47 : decode cX_countAnew 47 = .ok (.iaload, 1) := by decide +kernel
theorem dX_countAnew_48 : decode cX_countAnew 48 = .ok (.istore_n 2, 1) := by decide +kernel
theorem dX_countAnew_49 : decode cX_countAnew 49 = .ok (.aload_n 0, 1) := by decide +kernel
theorem dX_countAnew_50 : decode cX_countAnew 50 = .ok (.getfield 22, 3) := by decide +kernel
theorem dX_countAnew_53 : decode cX_countAnew 53 = .ok (.iload_n 2, 1) := by decide +kernel
theorem dX_countAnew_54 : decode cX_countAnew 54 = .ok (.iaload, 1) := by decide +kernel
theorem dX_countAnew_55 : decode cX_countAnew 55 = .ok (.aload_n 0, 1) := by decide +kernel
theorem dX_countAnew_56 : decode cX_countAnew 56 = .ok (.iload_n 2, 1) := by decide +kernel
theorem dX_countAnew_57 : decode cX_countAnew 57 = .ok (.invokevirtual 126, 3) := by decide +kernel
theorem dX_countAnew_60 : decode cX_countAnew 60 = .ok (.iadd, 1) := by decide +kernel
theorem dX_countAnew_61 : decode cX_countAnew 61 = .ok (.istore_n 3, 1) := by decide +kernel
theorem dX_countAnew_62 : decode cX_countAnew 62 = .ok (.aload_n 0, 1) := by decide +kernel
theorem dX_countAnew_63 : decode cX_countAnew 63 = .ok (.getfield 22, 3) := by decide +kernel
theorem dX_countAnew_66 : decode cX_countAnew 66 = .ok (.iload_n 2, 1) := by decide +kernel
theorem dX_countAnew_67 : decode cX_countAnew 67 = .ok (.iaload, 1) := by decide +kernel
theorem dX_countAnew_68 : decode cX_countAnew 68 = .ok (.iconst 1, 1) := by decide +kernel
theorem dX_countAnew_69 : decode cX_countAnew 69 = .ok (.iadd, 1) := by decide +kernel
theorem dX_countAnew_70 : decode cX_countAnew 70 = .ok (.istore 4, 2) := by decide +kernel
theorem dX_countAnew_72 : decode cX_countAnew 72 = .ok (.iload 4, 2) := by decide +kernel
theorem dX_countAnew_74 : decode cX_countAnew 74 = .ok (.iload_n 3, 1) := by decide +kernel
theorem dX_countAnew_75 : decode cX_countAnew 75 = .ok (.if_icmp .ge 20, 3) := by decide +kernel
theorem dX_countAnew_78 : decode cX_countAnew 78 = .ok (.aload_n 0, 1) := by decide +kernel
theorem dX_countAnew_79 : decode cX_countAnew 79 = .ok (.aload_n 0, 1) := by decide +kernel
theorem dX_countAnew_80 : decode cX_countAnew 80 = .ok (.getfield 18, 3) := by decide +kernel
theorem dX_countAnew_83 : decode cX_countAnew 83 = .ok (.iload 4, 2) := by decide +kernel
theorem dX_countAnew_85 : decode cX_countAnew 85 = .ok (.iaload, 1) := by decide +kernel
theorem dX_countAnew_86 : decode cX_countAnew 86 = .ok (.invokevirtual 97, 3) := by decide +kernel
theorem dX_countAnew_89 : decode cX_countAnew 89 = .ok (.iinc 4 1, 3) := by decide +kernel
theorem dX_countAnew_92 : decode cX_countAnew 92 = .ok (.goto (-20), 3) := by decide +kernel
theorem dX_countAnew_95 : decode cX_countAnew 95 = .ok (.iinc 1 1, 3) := by decide +kernel
theorem dX_countAnew_98 : decode cX_countAnew 98 = .ok (.goto (-64), 3) := by decide +kernel
theorem dX_countAnew_101 : decode cX_countAnew 101 = .ok (.return_, 1) := by decide +kernel
