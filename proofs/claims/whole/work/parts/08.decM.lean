theorem dM_init_0 : decode cM_init 0 = .ok (.aload_n 0, 1) := by decide +kernel
theorem dM_init_1 : decode cM_init 1 = .ok (.invokespecial 1, 3) := by decide +kernel
theorem dM_init_4 : decode cM_init 4 = .ok (.aload_n 0, 1) := by decide +kernel
theorem dM_init_5 : decode cM_init 5 = .ok (.bipush 8, 2) := by decide +kernel
theorem dM_init_7 : decode cM_init 7 = .ok (.newarray .int, 2) := by decide +kernel
theorem dM_init_9 : decode cM_init 9 = .ok (.putfield 7, 3) := by decide +kernel
theorem dM_init_12 : decode cM_init 12 = .ok (.aload_n 0, 1) := by decide +kernel
theorem dM_init_13 : decode cM_init 13 = .ok (.bipush 41, 2) := by decide +kernel
theorem dM_init_15 : decode cM_init 15 = .ok (.newarray .boolean, 2) := by decide +kernel
theorem dM_init_17 : decode cM_init 17 = .ok (.putfield 13, 3) := by decide +kernel
theorem dM_init_20 : decode cM_init 20 = .ok (.aload_n 0, 1) := by decide +kernel
theorem dM_init_21 : decode cM_init 21 = .ok (.bipush 41, 2) := by decide +kernel
theorem dM_init_23 : decode cM_init 23 = .ok (.newarray .int, 2) := by decide +kernel
theorem dM_init_25 : decode cM_init 25 = .ok (.putfield 17, 3) := by decide +kernel
theorem dM_init_28 : decode cM_init 28 = .ok (.aload_n 0, 1) := by decide +kernel
theorem dM_init_29 : decode cM_init 29 = .ok (.bipush 41, 2) := by decide +kernel
theorem dM_init_31 : decode cM_init 31 = .ok (.newarray .int, 2) := by decide +kernel
theorem dM_init_33 : decode cM_init 33 = .ok (.putfield 20, 3) := by decide +kernel
theorem dM_init_36 : decode cM_init 36 = .ok (.aload_n 0, 1) := by decide +kernel
theorem dM_init_37 : decode cM_init 37 = .ok (.bipush 41, 2) := by decide +kernel
theorem dM_init_39 : decode cM_init 39 = .ok (.newarray .int, 2) := by decide +kernel
theorem dM_init_41 : decode cM_init 41 = .ok (.putfield 23, 3) := by decide +kernel
theorem dM_init_44 : decode cM_init 44 = .ok (.aload_n 0, 1) := by decide +kernel
theorem dM_init_45 : decode cM_init 45 = .ok (.sipush 400, 3) := by decide +kernel
theorem dM_init_48 : decode cM_init 48 = .ok (.newarray .int, 2) := by decide +kernel
theorem dM_init_50 : decode cM_init 50 = .ok (.putfield 26, 3) := by decide +kernel
theorem dM_init_53 : decode cM_init 53 = .ok (.aload_n 0, 1) := by decide +kernel
theorem dM_init_54 : decode cM_init 54 = .ok (.sipush 400, 3) := by decide +kernel
theorem dM_init_57 : decode cM_init 57 = .ok (.newarray .int, 2) := by decide +kernel
theorem dM_init_59 : decode cM_init 59 = .ok (.putfield 29, 3) := by decide +kernel
theorem dM_init_62 : decode cM_init 62 = .ok (.aload_n 0, 1) := by decide +kernel
theorem dM_init_63 : decode cM_init 63 = .ok (.sipush 400, 3) := by decide +kernel
theorem dM_init_66 : decode cM_init 66 = .ok (.newarray .int, 2) := by decide +kernel
theorem dM_init_68 : decode cM_init 68 = .ok (.putfield 32, 3) := by decide +kernel
theorem dM_init_71 : decode cM_init 71 = .ok (.aload_n 0, 1) := by decide +kernel
theorem dM_init_72 : decode cM_init 72 = .ok (.sipush 400, 3) := by decide +kernel
theorem dM_init_75 : decode cM_init 75 = .ok (.newarray .int, 2) := by decide +kernel
theorem dM_init_77 : decode cM_init 77 = .ok (.putfield 35, 3) := by decide +kernel
theorem dM_init_80 : decode cM_init 80 = .ok (.aload_n 0, 1) := by decide +kernel
theorem dM_init_81 : decode cM_init 81 = .ok (.bipush 41, 2) := by decide +kernel
theorem dM_init_83 : decode cM_init 83 = .ok (.newarray .int, 2) := by decide +kernel
theorem dM_init_85 : decode cM_init 85 = .ok (.putfield 38, 3) := by decide +kernel
theorem dM_init_88 : decode cM_init 88 = .ok (.aload_n 0, 1) := by decide +kernel
theorem dM_init_89 : decode cM_init 89 = .ok (.bipush 41, 2) := by decide +kernel
theorem dM_init_91 : decode cM_init 91 = .ok (.newarray .int, 2) := by decide +kernel
theorem dM_init_93 : decode cM_init 93 = .ok (.putfield 41, 3) := by decide +kernel
theorem dM_init_96 : decode cM_init 96 = .ok (.aload_n 0, 1) := by decide +kernel
theorem dM_init_97 : decode cM_init 97 = .ok (.bipush 41, 2) := by decide +kernel
theorem dM_init_99 : decode cM_init 99 = .ok (.newarray .boolean, 2) := by decide +kernel
theorem dM_init_101 : decode cM_init 101 = .ok (.putfield 44, 3) := by decide +kernel
theorem dM_init_104 : decode cM_init 104 = .ok (.aload_n 0, 1) := by decide +kernel
theorem dM_init_105 : decode cM_init 105 = .ok (.iload_n 1, 1) := by decide +kernel
theorem dM_init_106 : decode cM_init 106 = .ok (.bipush 16, 2) := by decide +kernel
theorem dM_init_108 : decode cM_init 108 = .ok (.if_icmp .ge 8, 3) := by decide +kernel
theorem dM_init_111 : decode cM_init 111 = .ok (.bipush 16, 2) := by decide +kernel
theorem dM_init_113 : decode cM_init 113 = .ok (.goto 17, 3) := by decide +kernel
theorem dM_init_116 : decode cM_init 116 = .ok (.iload_n 1, 1) := by decide +kernel
theorem dM_init_117 : decode cM_init 117 = .ok (.sipush 400, 3) := by decide +kernel
theorem dM_init_120 : decode cM_init 120 = .ok (.if_icmp .le 9, 3) := by decide +kernel
theorem dM_init_123 : decode cM_init 123 = .ok (.sipush 400, 3) := by decide +kernel
theorem dM_init_126 : decode cM_init 126 = .ok (.goto 4, 3) := by decide +kernel
theorem dM_init_129 : decode cM_init 129 = .ok (.iload_n 1, 1) := by decide +kernel
theorem dM_init_130 : decode cM_init 130 = .ok (.putfield 47, 3) := by decide +kernel
theorem dM_init_133 : decode cM_init 133 = .ok (.aload_n 0, 1) := by decide +kernel
theorem dM_init_134 : decode cM_init 134 = .ok (.iload_n 2, 1) := by decide +kernel
theorem dM_init_135 : decode cM_init 135 = .ok (.iconst 2, 1) := by decide +kernel
theorem dM_init_136 : decode cM_init 136 = .ok (.if_icmp .ge 7, 3) := by decide +kernel
theorem dM_init_139 : decode cM_init 139 = .ok (.iconst 2, 1) := by decide +kernel
theorem dM_init_140 : decode cM_init 140 = .ok (.goto 15, 3) := by decide +kernel
theorem dM_init_143 : decode cM_init 143 = .ok (.iload_n 2, 1) := by decide +kernel
theorem dM_init_144 : decode cM_init 144 = .ok (.bipush 40, 2) := by decide +kernel
theorem dM_init_146 : decode cM_init 146 = .ok (.if_icmp .le 8, 3) := by decide +kernel
theorem dM_init_149 : decode cM_init 149 = .ok (.bipush 40, 2) := by decide +kernel
theorem dM_init_151 : decode cM_init 151 = .ok (.goto 4, 3) := by decide +kernel
theorem dM_init_154 : decode cM_init 154 = .ok (.iload_n 2, 1) := by decide +kernel
theorem dM_init_155 : decode cM_init 155 = .ok (.putfield 51, 3) := by decide +kernel
theorem dM_init_158 : decode cM_init 158 = .ok (.aload_n 0, 1) := by decide +kernel
theorem dM_init_159 : decode cM_init 159 = .ok (.iconst 0, 1) := by decide +kernel
theorem dM_init_160 : decode cM_init 160 = .ok (.aload_n 0, 1) := by decide +kernel
theorem dM_init_161 : decode cM_init 161 = .ok (.getfield 47, 3) := by decide +kernel
theorem dM_init_164 : decode cM_init 164 = .ok (.invokevirtual 54, 3) := by decide +kernel
theorem dM_init_167 : decode cM_init 167 = .ok (.return_, 1) := by decide +kernel
theorem dM_thrown_0 : decode cM_thrown 0 = .ok (.aload_n 0, 1) := by decide +kernel
theorem dM_thrown_1 : decode cM_thrown 1 = .ok (.getfield 58, 3) := by decide +kernel
theorem dM_thrown_4 : decode cM_thrown 4 = .ok (.ireturn, 1) := by decide +kernel
theorem dM_leads_0 : decode cM_leads 0 = .ok (.iload_n 0, 1) := by decide +kernel
theorem dM_leads_1 : decode cM_leads 1 = .ok (.ifCond .eq 13, 3) := by decide +kernel
theorem dM_leads_4 : decode cM_leads 4 = .ok (.iload_n 0, 1) := by decide +kernel
theorem dM_leads_5 : decode cM_leads 5 = .ok (.iconst 1, 1) := by decide +kernel
theorem dM_leads_6 : decode cM_leads 6 = .ok (.iand, 1) := by decide +kernel
theorem dM_leads_7 : decode cM_leads 7 = .ok (.ifCond .ne 7, 3) := by decide +kernel
theorem dM_leads_10 : decode cM_leads 10 = .ok (.iconst 1, 1) := by decide +kernel
theorem dM_leads_11 : decode cM_leads 11 = .ok (.goto 4, 3) := by decide +kernel
theorem dM_leads_14 : decode cM_leads 14 = .ok (.iconst 0, 1) := by decide +kernel
theorem dM_leads_15 : decode cM_leads 15 = .ok (.ireturn, 1) := by decide +kernel
theorem dM_isObject_0 : decode cM_isObject 0 = .ok (.iload_n 1, 1) := by decide +kernel
theorem dM_isObject_1 : decode cM_isObject 1 = .ok (.ifCond .le 35, 3) := by decide +kernel
theorem dM_isObject_4 : decode cM_isObject 4 = .ok (.iload_n 1, 1) := by decide +kernel
theorem dM_isObject_5 : decode cM_isObject 5 = .ok (.iconst 2, 1) := by decide +kernel
theorem dM_isObject_6 : decode cM_isObject 6 = .ok (.aload_n 0, 1) := by decide +kernel
theorem dM_isObject_7 : decode cM_isObject 7 = .ok (.getfield 51, 3) := by decide +kernel
theorem dM_isObject_10 : decode cM_isObject 10 = .ok (.imul, 1) := by decide +kernel
theorem dM_isObject_11 : decode cM_isObject 11 = .ok (.if_icmp .gt 25, 3) := by decide +kernel
theorem dM_isObject_14 : decode cM_isObject 14 = .ok (.iload_n 1, 1) := by decide +kernel
theorem dM_isObject_15 : decode cM_isObject 15 = .ok (.invokestatic 61, 3) := by decide +kernel
theorem dM_isObject_18 : decode cM_isObject 18 = .ok (.ifCond .eq 18, 3) := by decide +kernel
theorem dM_isObject_21 : decode cM_isObject 21 = .ok (.aload_n 0, 1) := by decide +kernel
theorem dM_isObject_22 : decode cM_isObject 22 = .ok (.getfield 13, 3) := by decide +kernel
theorem dM_isObject_25 : decode cM_isObject 25 = .ok (.iload_n 1, 1) := by decide +kernel
theorem dM_isObject_26 : decode cM_isObject 26 = .ok (.iconst 2, 1) := by decide +kernel
theorem dM_isObject_27 : decode cM_isObject 27 = .ok (.idiv, 1) := by decide +kernel
theorem dM_isObject_28 : decode cM_isObject 28 = .ok (.baload, 1) := by decide +kernel
theorem dM_isObject_29 : decode cM_isObject 29 = .ok (.ifCond .eq 7, 3) := by decide +kernel
theorem dM_isObject_32 : decode cM_isObject 32 = .ok (.iconst 1, 1) := by decide +kernel
theorem dM_isObject_33 : decode cM_isObject 33 = .ok (.goto 4, 3) := by decide +kernel
theorem dM_isObject_36 : decode cM_isObject 36 = .ok (.iconst 0, 1) := by decide +kernel
theorem dM_isObject_37 : decode cM_isObject 37 = .ok (.ireturn, 1) := by decide +kernel
theorem dM_isValue_0 : decode cM_isValue 0 = .ok (.iload_n 1, 1) := by decide +kernel
theorem dM_isValue_1 : decode cM_isValue 1 = .ok (.invokestatic 61, 3) := by decide +kernel
theorem dM_isValue_4 : decode cM_isValue 4 = .ok (.ifCond .eq 11, 3) := by decide +kernel
theorem dM_isValue_7 : decode cM_isValue 7 = .ok (.aload_n 0, 1) := by decide +kernel
theorem dM_isValue_8 : decode cM_isValue 8 = .ok (.iload_n 1, 1) := by decide +kernel
theorem dM_isValue_9 : decode cM_isValue 9 = .ok (.invokevirtual 65, 3) := by decide +kernel
theorem dM_isValue_12 : decode cM_isValue 12 = .ok (.ifCond .eq 7, 3) := by decide +kernel
theorem dM_isValue_15 : decode cM_isValue 15 = .ok (.iconst 1, 1) := by decide +kernel
theorem dM_isValue_16 : decode cM_isValue 16 = .ok (.goto 4, 3) := by decide +kernel
theorem dM_isValue_19 : decode cM_isValue 19 = .ok (.iconst 0, 1) := by decide +kernel
theorem dM_isValue_20 : decode cM_isValue 20 = .ok (.ireturn, 1) := by decide +kernel
theorem dM_isRegister_0 : decode cM_isRegister 0 = .ok (.iload_n 0, 1) := by decide +kernel
theorem dM_isRegister_1 : decode cM_isRegister 1 = .ok (.ifCond .lt 13, 3) := by decide +kernel
theorem dM_isRegister_4 : decode cM_isRegister 4 = .ok (.iload_n 0, 1) := by decide +kernel
theorem dM_isRegister_5 : decode cM_isRegister 5 = .ok (.bipush 8, 2) := by decide +kernel
theorem dM_isRegister_7 : decode cM_isRegister 7 = .ok (.if_icmp .ge 7, 3) := by decide +kernel
theorem dM_isRegister_10 : decode cM_isRegister 10 = .ok (.iconst 1, 1) := by decide +kernel
theorem dM_isRegister_11 : decode cM_isRegister 11 = .ok (.goto 4, 3) := by decide +kernel
theorem dM_isRegister_14 : decode cM_isRegister 14 = .ok (.iconst 0, 1) := by decide +kernel
theorem dM_isRegister_15 : decode cM_isRegister 15 = .ok (.ireturn, 1) := by decide +kernel
theorem dM_give_0 : decode cM_give 0 = .ok (.aload_n 0, 1) := by decide +kernel
theorem dM_give_1 : decode cM_give 1 = .ok (.getfield 29, 3) := by decide +kernel
theorem dM_give_4 : decode cM_give 4 = .ok (.aload_n 0, 1) := by decide +kernel
theorem dM_give_5 : decode cM_give 5 = .ok (.getfield 68, 3) := by decide +kernel
theorem dM_give_8 : decode cM_give 8 = .ok (.iload_n 1, 1) := by decide +kernel
theorem dM_give_9 : decode cM_give 9 = .ok (.iastore, 1) := by decide +kernel
theorem dM_give_10 : decode cM_give 10 = .ok (.aload_n 0, 1) := by decide +kernel
theorem dM_give_11 : decode cM_give 11 = .ok (.getfield 32, 3) := by decide +kernel
theorem dM_give_14 : decode cM_give 14 = .ok (.aload_n 0, 1) := by decide +kernel
theorem dM_give_15 : decode cM_give 15 = .ok (.getfield 68, 3) := by decide +kernel
theorem dM_give_18 : decode cM_give 18 = .ok (.iload_n 2, 1) := by decide +kernel
theorem dM_give_19 : decode cM_give 19 = .ok (.iastore, 1) := by decide +kernel
theorem dM_give_20 : decode cM_give 20 = .ok (.aload_n 0, 1) := by decide +kernel
theorem dM_give_21 : decode cM_give 21 = .ok (.getfield 35, 3) := by decide +kernel
theorem dM_give_24 : decode cM_give 24 = .ok (.aload_n 0, 1) := by decide +kernel
theorem dM_give_25 : decode cM_give 25 = .ok (.getfield 68, 3) := by decide +kernel
theorem dM_give_28 : decode cM_give 28 = .ok (.aload_n 0, 1) := by decide +kernel
theorem dM_give_29 : decode cM_give 29 = .ok (.getfield 71, 3) := by decide +kernel
theorem dM_give_32 : decode cM_give 32 = .ok (.iastore, 1) := by decide +kernel
theorem dM_give_33 : decode cM_give 33 = .ok (.aload_n 0, 1) := by decide +kernel
theorem dM_give_34 : decode cM_give 34 = .ok (.dup, 1) := by decide +kernel
theorem dM_give_35 : decode cM_give 35 = .ok (.getfield 71, 3) := by decide +kernel
theorem dM_give_38 : decode cM_give 38 = .ok (.iconst 1, 1) := by decide +kernel
theorem dM_give_39 : decode cM_give 39 = .ok (.iadd, 1) := by decide +kernel
theorem dM_give_40 : decode cM_give 40 = .ok (.putfield 71, 3) := by decide +kernel
theorem dM_give_43 : decode cM_give 43 = .ok (.aload_n 0, 1) := by decide +kernel
theorem dM_give_44 : decode cM_give 44 = .ok (.dup, 1) := by decide +kernel
theorem dM_give_45 : decode cM_give 45 = .ok (.getfield 68, 3) := by decide +kernel
theorem dM_give_48 : decode cM_give 48 = .ok (.iconst 1, 1) := by decide +kernel
theorem dM_give_49 : decode cM_give 49 = .ok (.iadd, 1) := by decide +kernel
theorem dM_give_50 : decode cM_give 50 = .ok (.putfield 68, 3) := by decide +kernel
theorem dM_give_53 : decode cM_give 53 = .ok (.return_, 1) := by decide +kernel
theorem dM_freeWords_0 : decode cM_freeWords 0 = .ok (.iconst 0, 1) := by decide +kernel
theorem dM_freeWords_1 : decode cM_freeWords 1 = .ok (.istore_n 1, 1) := by decide +kernel
theorem dM_freeWords_2 : decode cM_freeWords 2 = .ok (.iconst 0, 1) := by decide +kernel
theorem dM_freeWords_3 : decode cM_freeWords 3 = .ok (.istore_n 2, 1) := by decide +kernel
theorem dM_freeWords_4 : decode cM_freeWords 4 = .ok (.iload_n 2, 1) := by decide +kernel
theorem dM_freeWords_5 : decode cM_freeWords 5 = .ok (.aload_n 0, 1) := by decide +kernel
theorem dM_freeWords_6 : decode cM_freeWords 6 = .ok (.getfield 68, 3) := by decide +kernel
theorem dM_freeWords_9 : decode cM_freeWords 9 = .ok (.if_icmp .ge 18, 3) := by decide +kernel
theorem dM_freeWords_12 : decode cM_freeWords 12 = .ok (.iload_n 1, 1) := by decide +kernel
theorem dM_freeWords_13 : decode cM_freeWords 13 = .ok (.aload_n 0, 1) := by decide +kernel
theorem dM_freeWords_14 : decode cM_freeWords 14 = .ok (.getfield 32, 3) := by decide +kernel
theorem dM_freeWords_17 : decode cM_freeWords 17 = .ok (.iload_n 2, 1) := by decide +kernel
theorem dM_freeWords_18 : decode cM_freeWords 18 = .ok (.iaload, 1) := by decide +kernel
theorem dM_freeWords_19 : decode cM_freeWords 19 = .ok (.iadd, 1) := by decide +kernel
theorem dM_freeWords_20 : decode cM_freeWords 20 = .ok (.istore_n 1, 1) := by decide +kernel
theorem dM_freeWords_21 : decode cM_freeWords 21 = .ok (.iinc 2 1, 3) := by decide +kernel
theorem dM_freeWords_24 : decode cM_freeWords 24 = .ok (.goto (-20), 3) := by decide +kernel
theorem dM_freeWords_27 : decode cM_freeWords 27 = .ok (.iload_n 1, 1) := by decide +kernel
theorem dM_freeWords_28 : decode cM_freeWords 28 = .ok (.ireturn, 1) := by decide +kernel
theorem dM_fitting_0 : decode cM_fitting 0 = .ok (.iconst (-1), 1) := by decide +kernel
theorem dM_fitting_1 : decode cM_fitting 1 = .ok (.istore_n 2, 1) := by decide +kernel
theorem dM_fitting_2 : decode cM_fitting 2 = .ok (.iconst 0, 1) := by decide +kernel
theorem dM_fitting_3 : decode cM_fitting 3 = .ok (.istore_n 3, 1) := by decide +kernel
theorem dM_fitting_4 : decode cM_fitting 4 = .ok (.iload_n 3, 1) := by decide +kernel
theorem dM_fitting_5 : decode cM_fitting 5 = .ok (.aload_n 0, 1) := by decide +kernel
theorem dM_fitting_6 : decode cM_fitting 6 = .ok (.getfield 68, 3) := by decide +kernel
theorem dM_fitting_9 : decode cM_fitting 9 = .ok (.if_icmp .ge 82, 3) := by decide +kernel
theorem dM_fitting_12 : decode cM_fitting 12 = .ok (.aload_n 0, 1) := by decide +kernel
theorem dM_fitting_13 : decode cM_fitting 13 = .ok (.getfield 32, 3) := by decide +kernel
theorem dM_fitting_16 : decode cM_fitting 16 = .ok (.iload_n 3, 1) := by decide +kernel
theorem dM_fitting_17 : decode cM_fitting 17 = .ok (.iaload, 1) := by decide +kernel
theorem dM_fitting_18 : decode cM_fitting 18 = .ok (.iload_n 1, 1) := by decide +kernel
theorem dM_fitting_19 : decode cM_fitting 19 = .ok (.if_icmp .lt 7, 3) := by decide +kernel
theorem dM_fitting_22 : decode cM_fitting 22 = .ok (.iconst 1, 1) := by decide +kernel
theorem dM_fitting_23 : decode cM_fitting 23 = .ok (.goto 4, 3) := by decide +kernel
theorem dM_fitting_26 : decode cM_fitting 26 = .ok (.iconst 0, 1) := by decide +kernel
theorem dM_fitting_27 : decode cM_fitting 27 = .ok (.istore 4, 2) := by decide +kernel
theorem dM_fitting_29 : decode cM_fitting 29 = .ok (.iload 4, 2) := by decide +kernel
theorem dM_fitting_31 : decode cM_fitting 31 = .ok (.ifCond .eq 54, 3) := by decide +kernel
theorem dM_fitting_34 : decode cM_fitting 34 = .ok (.iload_n 2, 1) := by decide +kernel
theorem dM_fitting_35 : decode cM_fitting 35 = .ok (.ifCond .lt 48, 3) := by decide +kernel
theorem dM_fitting_38 : decode cM_fitting 38 = .ok (.aload_n 0, 1) := by decide +kernel
theorem dM_fitting_39 : decode cM_fitting 39 = .ok (.getfield 32, 3) := by decide +kernel
theorem dM_fitting_42 : decode cM_fitting 42 = .ok (.iload_n 3, 1) := by decide +kernel
theorem dM_fitting_43 : decode cM_fitting 43 = .ok (.iaload, 1) := by decide +kernel
theorem dM_fitting_44 : decode cM_fitting 44 = .ok (.aload_n 0, 1) := by decide +kernel
theorem dM_fitting_45 : decode cM_fitting 45 = .ok (.getfield 32, 3) := by decide +kernel
theorem dM_fitting_48 : decode cM_fitting 48 = .ok (.iload_n 2, 1) := by decide +kernel
theorem dM_fitting_49 : decode cM_fitting 49 = .ok (.iaload, 1) := by decide +kernel
theorem dM_fitting_50 : decode cM_fitting 50 = .ok (.if_icmp .lt 33, 3) := by decide +kernel
theorem dM_fitting_53 : decode cM_fitting 53 = .ok (.aload_n 0, 1) := by decide +kernel
theorem dM_fitting_54 : decode cM_fitting 54 = .ok (.getfield 32, 3) := by decide +kernel
theorem dM_fitting_57 : decode cM_fitting 57 = .ok (.iload_n 3, 1) := by decide +kernel
theorem dM_fitting_58 : decode cM_fitting 58 = .ok (.iaload, 1) := by decide +kernel
theorem dM_fitting_59 : decode cM_fitting 59 = .ok (.aload_n 0, 1) := by decide +kernel
theorem dM_fitting_60 : decode cM_fitting 60 = .ok (.getfield 32, 3) := by decide +kernel
theorem dM_fitting_63 : decode cM_fitting 63 = .ok (.iload_n 2, 1) := by decide +kernel
theorem dM_fitting_64 : decode cM_fitting 64 = .ok (.iaload, 1) := by decide +kernel
theorem dM_fitting_65 : decode cM_fitting 65 = .ok (.if_icmp .ne 20, 3) := by decide +kernel
theorem dM_fitting_68 : decode cM_fitting 68 = .ok (.aload_n 0, 1) := by decide +kernel
theorem dM_fitting_69 : decode cM_fitting 69 = .ok (.getfield 35, 3) := by decide +kernel
theorem dM_fitting_72 : decode cM_fitting 72 = .ok (.iload_n 3, 1) := by decide +kernel
theorem dM_fitting_73 : decode cM_fitting 73 = .ok (.iaload, 1) := by decide +kernel
theorem dM_fitting_74 : decode cM_fitting 74 = .ok (.aload_n 0, 1) := by decide +kernel
theorem dM_fitting_75 : decode cM_fitting 75 = .ok (.getfield 35, 3) := by decide +kernel
theorem dM_fitting_78 : decode cM_fitting 78 = .ok (.iload_n 2, 1) := by decide +kernel
theorem dM_fitting_79 : decode cM_fitting 79 = .ok (.iaload, 1) := by decide +kernel
theorem dM_fitting_80 : decode cM_fitting 80 = .ok (.if_icmp .le 5, 3) := by decide +kernel
theorem dM_fitting_83 : decode cM_fitting 83 = .ok (.iload_n 3, 1) := by decide +kernel
theorem dM_fitting_84 : decode cM_fitting 84 = .ok (.istore_n 2, 1) := by decide +kernel
theorem dM_fitting_85 : decode cM_fitting 85 = .ok (.iinc 3 1, 3) := by decide +kernel
theorem dM_fitting_88 : decode cM_fitting 88 = .ok (.goto (-84), 3) := by decide +kernel
theorem dM_fitting_91 : decode cM_fitting 91 = .ok (.iload_n 2, 1) := by decide +kernel
theorem dM_fitting_92 : decode cM_fitting 92 = .ok (.ireturn, 1) := by decide +kernel
theorem dM_pack_0 : decode cM_pack 0 = .ok (.iconst 0, 1) := by decide +kernel
theorem dM_pack_1 : decode cM_pack 1 = .ok (.istore_n 1, 1) := by decide +kernel
theorem dM_pack_2 : decode cM_pack 2 = .ok (.iconst 0, 1) := by decide +kernel
theorem dM_pack_3 : decode cM_pack 3 = .ok (.istore_n 2, 1) := by decide +kernel
theorem dM_pack_4 : decode cM_pack 4 = .ok (.iconst 1, 1) := by decide +kernel
theorem dM_pack_5 : decode cM_pack 5 = .ok (.istore_n 3, 1) := by decide +kernel
theorem dM_pack_6 : decode cM_pack 6 = .ok (.iload_n 3, 1) := by decide +kernel
theorem dM_pack_7 : decode cM_pack 7 = .ok (.ifCond .eq 171, 3) := by decide +kernel
theorem dM_pack_10 : decode cM_pack 10 = .ok (.iconst 0, 1) := by decide +kernel
theorem dM_pack_11 : decode cM_pack 11 = .ok (.istore 4, 2) := by decide +kernel
theorem dM_pack_13 : decode cM_pack 13 = .ok (.iconst 1, 1) := by decide +kernel
theorem dM_pack_14 : decode cM_pack 14 = .ok (.istore 5, 2) := by decide +kernel
theorem dM_pack_16 : decode cM_pack 16 = .ok (.iload 5, 2) := by decide +kernel
theorem dM_pack_18 : decode cM_pack 18 = .ok (.aload_n 0, 1) := by decide +kernel
theorem dM_pack_19 : decode cM_pack 19 = .ok (.getfield 51, 3) := by decide +kernel
theorem dM_pack_22 : decode cM_pack 22 = .ok (.if_icmp .gt 56, 3) := by decide +kernel
theorem dM_pack_25 : decode cM_pack 25 = .ok (.aload_n 0, 1) := by decide +kernel
theorem dM_pack_26 : decode cM_pack 26 = .ok (.getfield 13, 3) := by decide +kernel
theorem dM_pack_29 : decode cM_pack 29 = .ok (.iload 5, 2) := by decide +kernel
theorem dM_pack_31 : decode cM_pack 31 = .ok (.baload, 1) := by decide +kernel
theorem dM_pack_32 : decode cM_pack 32 = .ok (.ifCond .eq 40, 3) := by decide +kernel
theorem dM_pack_35 : decode cM_pack 35 = .ok (.aload_n 0, 1) := by decide +kernel
theorem dM_pack_36 : decode cM_pack 36 = .ok (.getfield 17, 3) := by decide +kernel
theorem dM_pack_39 : decode cM_pack 39 = .ok (.iload 5, 2) := by decide +kernel
theorem dM_pack_41 : decode cM_pack 41 = .ok (.iaload, 1) := by decide +kernel
theorem dM_pack_42 : decode cM_pack 42 = .ok (.iload_n 2, 1) := by decide +kernel
theorem dM_pack_43 : decode cM_pack 43 = .ok (.if_icmp .lt 29, 3) := by decide +kernel
theorem dM_pack_46 : decode cM_pack 46 = .ok (.iload 4, 2) := by decide +kernel
theorem dM_pack_48 : decode cM_pack 48 = .ok (.ifCond .eq 20, 3) := by decide +kernel
theorem dM_pack_51 : decode cM_pack 51 = .ok (.aload_n 0, 1) := by decide +kernel
theorem dM_pack_52 : decode cM_pack 52 = .ok (.getfield 17, 3) := by decide +kernel
theorem dM_pack_55 : decode cM_pack 55 = .ok (.iload 5, 2) := by decide +kernel
theorem dM_pack_57 : decode cM_pack 57 = .ok (.iaload, 1) := by decide +kernel
theorem dM_pack_58 : decode cM_pack 58 = .ok (.aload_n 0, 1) := by decide +kernel
theorem dM_pack_59 : decode cM_pack 59 = .ok (.getfield 17, 3) := by decide +kernel
theorem dM_pack_62 : decode cM_pack 62 = .ok (.iload 4, 2) := by decide +kernel
theorem dM_pack_64 : decode cM_pack 64 = .ok (.iaload, 1) := by decide +kernel
theorem dM_pack_65 : decode cM_pack 65 = .ok (.if_icmp .ge 7, 3) := by decide +kernel
theorem dM_pack_68 : decode cM_pack 68 = .ok (.iload 5, 2) := by decide +kernel
theorem dM_pack_70 : decode cM_pack 70 = .ok (.istore 4, 2) := by decide +kernel
theorem dM_pack_72 : decode cM_pack 72 = .ok (.iinc 5 1, 3) := by decide +kernel
theorem dM_pack_75 : decode cM_pack 75 = .ok (.goto (-59), 3) := by decide +kernel
theorem dM_pack_78 : decode cM_pack 78 = .ok (.iload 4, 2) := by decide +kernel
theorem dM_pack_80 : decode cM_pack 80 = .ok (.ifCond .le 7, 3) := by decide +kernel
theorem dM_pack_83 : decode cM_pack 83 = .ok (.iconst 1, 1) := by decide +kernel
theorem dM_pack_84 : decode cM_pack 84 = .ok (.goto 4, 3) := by decide +kernel
theorem dM_pack_87 : decode cM_pack 87 = .ok (.iconst 0, 1) := by decide +kernel
theorem dM_pack_88 : decode cM_pack 88 = .ok (.istore_n 3, 1) := by decide +kernel
theorem dM_pack_89 : decode cM_pack 89 = .ok (.iload_n 3, 1) := by decide +kernel
theorem dM_pack_90 : decode cM_pack 90 = .ok (.ifCond .eq 85, 3) := by decide +kernel
theorem dM_pack_93 : decode cM_pack 93 = .ok (.aload_n 0, 1) := by decide +kernel
theorem dM_pack_94 : decode cM_pack 94 = .ok (.getfield 17, 3) := by decide +kernel
theorem dM_pack_97 : decode cM_pack 97 = .ok (.iload 4, 2) := by decide +kernel
theorem dM_pack_99 : decode cM_pack 99 = .ok (.iaload, 1) := by decide +kernel
theorem dM_pack_100 : decode cM_pack 100 = .ok (.istore 5, 2) := by decide +kernel
theorem dM_pack_102 : decode cM_pack 102 = .ok (.aload_n 0, 1) := by decide +kernel
theorem dM_pack_103 : decode cM_pack 103 = .ok (.getfield 20, 3) := by decide +kernel
theorem dM_pack_106 : decode cM_pack 106 = .ok (.iload 4, 2) := by decide +kernel
theorem dM_pack_108 : decode cM_pack 108 = .ok (.iaload, 1) := by decide +kernel
theorem dM_pack_109 : decode cM_pack 109 = .ok (.iconst 2, 1) := by decide +kernel
theorem dM_pack_110 : decode cM_pack 110 = .ok (.iadd, 1) := by decide +kernel
theorem dM_pack_111 : decode cM_pack 111 = .ok (.istore 6, 2) := by decide +kernel
theorem dM_pack_113 : decode cM_pack 113 = .ok (.iconst 0, 1) := by decide +kernel
theorem dM_pack_114 : decode cM_pack 114 = .ok (.istore 7, 2) := by decide +kernel
theorem dM_pack_116 : decode cM_pack 116 = .ok (.iload 7, 2) := by decide +kernel
theorem dM_pack_118 : decode cM_pack 118 = .ok (.iload 6, 2) := by decide +kernel
theorem dM_pack_120 : decode cM_pack 120 = .ok (.if_icmp .ge 28, 3) := by decide +kernel
theorem dM_pack_123 : decode cM_pack 123 = .ok (.aload_n 0, 1) := by decide +kernel
theorem dM_pack_124 : decode cM_pack 124 = .ok (.getfield 26, 3) := by decide +kernel
theorem dM_pack_127 : decode cM_pack 127 = .ok (.iload_n 2, 1) := by decide +kernel
theorem dM_pack_128 : decode cM_pack 128 = .ok (.iload 7, 2) := by decide +kernel
theorem dM_pack_130 : decode cM_pack 130 = .ok (.iadd, 1) := by decide +kernel
theorem dM_pack_131 : decode cM_pack 131 = .ok (.aload_n 0, 1) := by decide +kernel
theorem dM_pack_132 : decode cM_pack 132 = .ok (.getfield 26, 3) := by decide +kernel
theorem dM_pack_135 : decode cM_pack 135 = .ok (.iload 5, 2) := by decide +kernel
theorem dM_pack_137 : decode cM_pack 137 = .ok (.iload 7, 2) := by decide +kernel
theorem dM_pack_139 : decode cM_pack 139 = .ok (.iadd, 1) := by decide +kernel
theorem dM_pack_140 : decode cM_pack 140 = .ok (.iaload, 1) := by decide +kernel
theorem dM_pack_141 : decode cM_pack 141 = .ok (.iastore, 1) := by decide +kernel
theorem dM_pack_142 : decode cM_pack 142 = .ok (.iinc 7 1, 3) := by decide +kernel
theorem dM_pack_145 : decode cM_pack 145 = .ok (.goto (-29), 3) := by decide +kernel
theorem dM_pack_148 : decode cM_pack 148 = .ok (.iload 5, 2) := by decide +kernel
theorem dM_pack_150 : decode cM_pack 150 = .ok (.iload_n 2, 1) := by decide +kernel
theorem dM_pack_151 : decode cM_pack 151 = .ok (.if_icmp .eq 9, 3) := by decide +kernel
theorem dM_pack_154 : decode cM_pack 154 = .ok (.iload_n 1, 1) := by decide +kernel
theorem dM_pack_155 : decode cM_pack 155 = .ok (.iconst 1, 1) := by decide +kernel
theorem dM_pack_156 : decode cM_pack 156 = .ok (.iadd, 1) := by decide +kernel
theorem dM_pack_157 : decode cM_pack 157 = .ok (.goto 4, 3) := by decide +kernel
theorem dM_pack_160 : decode cM_pack 160 = .ok (.iload_n 1, 1) := by decide +kernel
theorem dM_pack_161 : decode cM_pack 161 = .ok (.istore_n 1, 1) := by decide +kernel
theorem dM_pack_162 : decode cM_pack 162 = .ok (.aload_n 0, 1) := by decide +kernel
theorem dM_pack_163 : decode cM_pack 163 = .ok (.getfield 17, 3) := by decide +kernel
theorem dM_pack_166 : decode cM_pack 166 = .ok (.iload 4, 2) := by decide +kernel
theorem dM_pack_168 : decode cM_pack 168 = .ok (.iload_n 2, 1) := by decide +kernel
theorem dM_pack_169 : decode cM_pack 169 = .ok (.iastore, 1) := by decide +kernel
theorem dM_pack_170 : decode cM_pack 170 = .ok (.iload_n 2, 1) := by decide +kernel
theorem dM_pack_171 : decode cM_pack 171 = .ok (.iload 6, 2) := by decide +kernel
theorem dM_pack_173 : decode cM_pack 173 = .ok (.iadd, 1) := by decide +kernel
theorem dM_pack_174 : decode cM_pack 174 = .ok (.istore_n 2, 1) := by decide +kernel
theorem dM_pack_175 : decode cM_pack 175 = .ok (.goto (-169), 3) := by decide +kernel
theorem dM_pack_178 : decode cM_pack 178 = .ok (.aload_n 0, 1) := by decide +kernel
theorem dM_pack_179 : decode cM_pack 179 = .ok (.iconst 0, 1) := by decide +kernel
theorem dM_pack_180 : decode cM_pack 180 = .ok (.putfield 68, 3) := by decide +kernel
theorem dM_pack_183 : decode cM_pack 183 = .ok (.iload_n 2, 1) := by decide +kernel
theorem dM_pack_184 : decode cM_pack 184 = .ok (.aload_n 0, 1) := by decide +kernel
theorem dM_pack_185 : decode cM_pack 185 = .ok (.getfield 47, 3) := by decide +kernel
theorem dM_pack_188 : decode cM_pack 188 = .ok (.if_icmp .ge 14, 3) := by decide +kernel
theorem dM_pack_191 : decode cM_pack 191 = .ok (.aload_n 0, 1) := by decide +kernel
theorem dM_pack_192 : decode cM_pack 192 = .ok (.iload_n 2, 1) := by decide +kernel
theorem dM_pack_193 : decode cM_pack 193 = .ok (.aload_n 0, 1) := by decide +kernel
theorem dM_pack_194 : decode cM_pack 194 = .ok (.getfield 47, 3) := by decide +kernel
theorem dM_pack_197 : decode cM_pack 197 = .ok (.iload_n 2, 1) := by decide +kernel
theorem dM_pack_198 : decode cM_pack 198 = .ok (.isub, 1) := by decide +kernel
theorem dM_pack_199 : decode cM_pack 199 = .ok (.invokevirtual 54, 3) := by decide +kernel
theorem dM_pack_202 : decode cM_pack 202 = .ok (.iload_n 1, 1) := by decide +kernel
theorem dM_pack_203 : decode cM_pack 203 = .ok (.ireturn, 1) := by decide +kernel
theorem dM_place_0 : decode cM_place 0 = .ok (.aload_n 0, 1) := by decide +kernel
theorem dM_place_1 : decode cM_place 1 = .ok (.iload_n 1, 1) := by decide +kernel
theorem dM_place_2 : decode cM_place 2 = .ok (.invokevirtual 74, 3) := by decide +kernel
theorem dM_place_5 : decode cM_place 5 = .ok (.istore_n 2, 1) := by decide +kernel
theorem dM_place_6 : decode cM_place 6 = .ok (.iload_n 2, 1) := by decide +kernel
theorem dM_place_7 : decode cM_place 7 = .ok (.ifCond .ge 22, 3) := by decide +kernel
theorem dM_place_10 : decode cM_place 10 = .ok (.aload_n 0, 1) := by decide +kernel
theorem dM_place_11 : decode cM_place 11 = .ok (.invokevirtual 78, 3) := by decide +kernel
theorem dM_place_14 : decode cM_place 14 = .ok (.iload_n 1, 1) := by decide +kernel
theorem dM_place_15 : decode cM_place 15 = .ok (.if_icmp .lt 14, 3) := by decide +kernel
theorem dM_place_18 : decode cM_place 18 = .ok (.aload_n 0, 1) := by decide +kernel
theorem dM_place_19 : decode cM_place 19 = .ok (.invokevirtual 82, 3) := by decide +kernel
theorem dM_place_22 : decode cM_place 22 = .ok (.istore_n 3, 1) := by decide +kernel
theorem dM_place_23 : decode cM_place 23 = .ok (.aload_n 0, 1) := by decide +kernel
theorem dM_place_24 : decode cM_place 24 = .ok (.iload_n 1, 1) := by decide +kernel
theorem dM_place_25 : decode cM_place 25 = .ok (.invokevirtual 74, 3) := by decide +kernel
theorem dM_place_28 : decode cM_place 28 = .ok (.istore_n 2, 1) := by decide +kernel
theorem dM_place_29 : decode cM_place 29 = .ok (.iload_n 2, 1) := by decide +kernel
theorem dM_place_30 : decode cM_place 30 = .ok (.ifCond .ge 5, 3) := by decide +kernel
theorem dM_place_33 : decode cM_place 33 = .ok (.iconst (-1), 1) := by decide +kernel
theorem dM_place_34 : decode cM_place 34 = .ok (.ireturn, 1) := by decide +kernel
theorem dM_place_35 : decode cM_place 35 = .ok (.aload_n 0, 1) := by decide +kernel
theorem dM_place_36 : decode cM_place 36 = .ok (.getfield 29, 3) := by decide +kernel
theorem dM_place_39 : decode cM_place 39 = .ok (.iload_n 2, 1) := by decide +kernel
theorem dM_place_40 : decode cM_place 40 = .ok (.iaload, 1) := by decide +kernel
theorem dM_place_41 : decode cM_place 41 = .ok (.istore_n 3, 1) := by decide +kernel
theorem dM_place_42 : decode cM_place 42 = .ok (.aload_n 0, 1) := by decide +kernel
theorem dM_place_43 : decode cM_place 43 = .ok (.getfield 32, 3) := by decide +kernel
theorem dM_place_46 : decode cM_place 46 = .ok (.iload_n 2, 1) := by decide +kernel
theorem dM_place_47 : decode cM_place 47 = .ok (.iaload, 1) := by decide +kernel
theorem dM_place_48 : decode cM_place 48 = .ok (.iload_n 1, 1) := by decide +kernel
theorem dM_place_49 : decode cM_place 49 = .ok (.isub, 1) := by decide +kernel
theorem dM_place_50 : decode cM_place 50 = .ok (.istore 4, 2) := by decide +kernel
theorem dM_place_52 : decode cM_place 52 = .ok (.aload_n 0, 1) := by decide +kernel
theorem dM_place_53 : decode cM_place 53 = .ok (.dup, 1) := by decide +kernel
theorem dM_place_54 : decode cM_place 54 = .ok (.getfield 68, 3) := by decide +kernel
theorem dM_place_57 : decode cM_place 57 = .ok (.iconst 1, 1) := by decide +kernel
theorem dM_place_58 : decode cM_place 58 = .ok (.isub, 1) := by decide +kernel
theorem dM_place_59 : decode cM_place 59 = .ok (.putfield 68, 3) := by decide +kernel
theorem dM_place_62 : decode cM_place 62 = .ok (.aload_n 0, 1) := by decide +kernel
theorem dM_place_63 : decode cM_place 63 = .ok (.getfield 29, 3) := by decide +kernel
theorem dM_place_66 : decode cM_place 66 = .ok (.iload_n 2, 1) := by decide +kernel
theorem dM_place_67 : decode cM_place 67 = .ok (.aload_n 0, 1) := by decide +kernel
theorem dM_place_68 : decode cM_place 68 = .ok (.getfield 29, 3) := by decide +kernel
theorem dM_place_71 : decode cM_place 71 = .ok (.aload_n 0, 1) := by decide +kernel
theorem dM_place_72 : decode cM_place 72 = .ok (.getfield 68, 3) := by decide +kernel
theorem dM_place_75 : decode cM_place 75 = .ok (.iaload, 1) := by decide +kernel
theorem dM_place_76 : decode cM_place 76 = .ok (.iastore, 1) := by decide +kernel
theorem dM_place_77 : decode cM_place 77 = .ok (.aload_n 0, 1) := by decide +kernel
theorem dM_place_78 : decode cM_place 78 = .ok (.getfield 32, 3) := by decide +kernel
theorem dM_place_81 : decode cM_place 81 = .ok (.iload_n 2, 1) := by decide +kernel
theorem dM_place_82 : decode cM_place 82 = .ok (.aload_n 0, 1) := by decide +kernel
theorem dM_place_83 : decode cM_place 83 = .ok (.getfield 32, 3) := by decide +kernel
theorem dM_place_86 : decode cM_place 86 = .ok (.aload_n 0, 1) := by decide +kernel
theorem dM_place_87 : decode cM_place 87 = .ok (.getfield 68, 3) := by decide +kernel
theorem dM_place_90 : decode cM_place 90 = .ok (.iaload, 1) := by decide +kernel
theorem dM_place_91 : decode cM_place 91 = .ok (.iastore, 1) := by decide +kernel
theorem dM_place_92 : decode cM_place 92 = .ok (.aload_n 0, 1) := by decide +kernel
theorem dM_place_93 : decode cM_place 93 = .ok (.getfield 35, 3) := by decide +kernel
theorem dM_place_96 : decode cM_place 96 = .ok (.iload_n 2, 1) := by decide +kernel
theorem dM_place_97 : decode cM_place 97 = .ok (.aload_n 0, 1) := by decide +kernel
theorem dM_place_98 : decode cM_place 98 = .ok (.getfield 35, 3) := by decide +kernel
theorem dM_place_101 : decode cM_place 101 = .ok (.aload_n 0, 1) := by decide +kernel
theorem dM_place_102 : decode cM_place 102 = .ok (.getfield 68, 3) := by decide +kernel
theorem dM_place_105 : decode cM_place 105 = .ok (.iaload, 1) := by decide +kernel
theorem dM_place_106 : decode cM_place 106 = .ok (.iastore, 1) := by decide +kernel
theorem dM_place_107 : decode cM_place 107 = .ok (.iload 4, 2) := by decide +kernel
theorem dM_place_109 : decode cM_place 109 = .ok (.ifCond .le 12, 3) := by decide +kernel
theorem dM_place_112 : decode cM_place 112 = .ok (.aload_n 0, 1) := by decide +kernel
theorem dM_place_113 : decode cM_place 113 = .ok (.iload_n 3, 1) := by decide +kernel
theorem dM_place_114 : decode cM_place 114 = .ok (.iload_n 1, 1) := by decide +kernel
theorem dM_place_115 : decode cM_place 115 = .ok (.iadd, 1) := by decide +kernel
theorem dM_place_116 : decode cM_place 116 = .ok (.iload 4, 2) := by decide +kernel
theorem dM_place_118 : decode cM_place 118 = .ok (.invokevirtual 54, 3) := by decide +kernel
theorem dM_place_121 : decode cM_place 121 = .ok (.iload_n 3, 1) := by decide +kernel
theorem dM_place_122 : decode cM_place 122 = .ok (.ireturn, 1) := by decide +kernel
theorem dM_comes_0 : decode cM_comes 0 = .ok (.iload_n 1, 1) := by decide +kernel
theorem dM_comes_1 : decode cM_comes 1 = .ok (.invokestatic 61, 3) := by decide +kernel
theorem dM_comes_4 : decode cM_comes 4 = .ok (.ifCond .eq 28, 3) := by decide +kernel
theorem dM_comes_7 : decode cM_comes 7 = .ok (.aload_n 0, 1) := by decide +kernel
theorem dM_comes_8 : decode cM_comes 8 = .ok (.getfield 23, 3) := by decide +kernel
theorem dM_comes_11 : decode cM_comes 11 = .ok (.iload_n 1, 1) := by decide +kernel
theorem dM_comes_12 : decode cM_comes 12 = .ok (.iconst 2, 1) := by decide +kernel
theorem dM_comes_13 : decode cM_comes 13 = .ok (.idiv, 1) := by decide +kernel
theorem dM_comes_14 : decode cM_comes 14 = .ok (.iaload, 1) := by decide +kernel
theorem dM_comes_15 : decode cM_comes 15 = .ok (.bipush 7, 2) := by decide +kernel
theorem dM_comes_17 : decode cM_comes 17 = .ok (.if_icmp .ge 15, 3) := by decide +kernel
theorem dM_comes_20 : decode cM_comes 20 = .ok (.aload_n 0, 1) := by decide +kernel
theorem dM_comes_21 : decode cM_comes 21 = .ok (.getfield 23, 3) := by decide +kernel
theorem dM_comes_24 : decode cM_comes 24 = .ok (.iload_n 1, 1) := by decide +kernel
theorem dM_comes_25 : decode cM_comes 25 = .ok (.iconst 2, 1) := by decide +kernel
theorem dM_comes_26 : decode cM_comes 26 = .ok (.idiv, 1) := by decide +kernel
theorem dM_comes_27 : decode cM_comes 27 = .ok (.dup2, 1) := by decide +kernel
theorem dM_comes_28 : decode cM_comes 28 = .ok (.iaload, 1) := by decide +kernel
theorem dM_comes_29 : decode cM_comes 29 = .ok (.iconst 1, 1) := by decide +kernel
theorem dM_comes_30 : decode cM_comes 30 = .ok (.iadd, 1) := by decide +kernel
theorem dM_comes_31 : decode cM_comes 31 = .ok (.iastore, 1) := by decide +kernel
theorem dM_comes_32 : decode cM_comes 32 = .ok (.return_, 1) := by decide +kernel
theorem dM_less_0 : decode cM_less 0 = .ok (.iload_n 1, 1) := by decide +kernel
theorem dM_less_1 : decode cM_less 1 = .ok (.invokestatic 61, 3) := by decide +kernel
theorem dM_less_4 : decode cM_less 4 = .ok (.ifCond .eq 71, 3) := by decide +kernel
theorem dM_less_7 : decode cM_less 7 = .ok (.aload_n 0, 1) := by decide +kernel
theorem dM_less_8 : decode cM_less 8 = .ok (.getfield 23, 3) := by decide +kernel
theorem dM_less_11 : decode cM_less 11 = .ok (.iload_n 1, 1) := by decide +kernel
theorem dM_less_12 : decode cM_less 12 = .ok (.iconst 2, 1) := by decide +kernel
theorem dM_less_13 : decode cM_less 13 = .ok (.idiv, 1) := by decide +kernel
theorem dM_less_14 : decode cM_less 14 = .ok (.iaload, 1) := by decide +kernel
theorem dM_less_15 : decode cM_less 15 = .ok (.bipush 7, 2) := by decide +kernel
theorem dM_less_17 : decode cM_less 17 = .ok (.if_icmp .ge 58, 3) := by decide +kernel
theorem dM_less_20 : decode cM_less 20 = .ok (.aload_n 0, 1) := by decide +kernel
theorem dM_less_21 : decode cM_less 21 = .ok (.getfield 23, 3) := by decide +kernel
theorem dM_less_24 : decode cM_less 24 = .ok (.iload_n 1, 1) := by decide +kernel
theorem dM_less_25 : decode cM_less 25 = .ok (.iconst 2, 1) := by decide +kernel
theorem dM_less_26 : decode cM_less 26 = .ok (.idiv, 1) := by decide +kernel
theorem dM_less_27 : decode cM_less 27 = .ok (.dup2, 1) := by decide +kernel
theorem dM_less_28 : decode cM_less 28 = .ok (.iaload, 1) := by decide +kernel
theorem dM_less_29 : decode cM_less 29 = .ok (.iconst 1, 1) := by decide +kernel
theorem dM_less_30 : decode cM_less 30 = .ok (.isub, 1) := by decide +kernel
theorem dM_less_31 : decode cM_less 31 = .ok (.iastore, 1) := by decide +kernel
theorem dM_less_32 : decode cM_less 32 = .ok (.aload_n 0, 1) := by decide +kernel
theorem dM_less_33 : decode cM_less 33 = .ok (.getfield 23, 3) := by decide +kernel
theorem dM_less_36 : decode cM_less 36 = .ok (.iload_n 1, 1) := by decide +kernel
theorem dM_less_37 : decode cM_less 37 = .ok (.iconst 2, 1) := by decide +kernel
theorem dM_less_38 : decode cM_less 38 = .ok (.idiv, 1) := by decide +kernel
theorem dM_less_39 : decode cM_less 39 = .ok (.iaload, 1) := by decide +kernel
theorem dM_less_40 : decode cM_less 40 = .ok (.ifCond .ne 35, 3) := by decide +kernel
theorem dM_less_43 : decode cM_less 43 = .ok (.aload_n 0, 1) := by decide +kernel
theorem dM_less_44 : decode cM_less 44 = .ok (.getfield 38, 3) := by decide +kernel
theorem dM_less_47 : decode cM_less 47 = .ok (.aload_n 0, 1) := by decide +kernel
theorem dM_less_48 : decode cM_less 48 = .ok (.getfield 85, 3) := by decide +kernel
theorem dM_less_51 : decode cM_less 51 = .ok (.iload_n 1, 1) := by decide +kernel
theorem dM_less_52 : decode cM_less 52 = .ok (.iconst 2, 1) := by decide +kernel
theorem dM_less_53 : decode cM_less 53 = .ok (.idiv, 1) := by decide +kernel
theorem dM_less_54 : decode cM_less 54 = .ok (.iastore, 1) := by decide +kernel
theorem dM_less_55 : decode cM_less 55 = .ok (.aload_n 0, 1) := by decide +kernel
theorem dM_less_56 : decode cM_less 56 = .ok (.getfield 41, 3) := by decide +kernel
theorem dM_less_59 : decode cM_less 59 = .ok (.aload_n 0, 1) := by decide +kernel
theorem dM_less_60 : decode cM_less 60 = .ok (.getfield 85, 3) := by decide +kernel
theorem dM_less_63 : decode cM_less 63 = .ok (.iconst 0, 1) := by decide +kernel
theorem dM_less_64 : decode cM_less 64 = .ok (.iastore, 1) := by decide +kernel
theorem dM_less_65 : decode cM_less 65 = .ok (.aload_n 0, 1) := by decide +kernel
theorem dM_less_66 : decode cM_less 66 = .ok (.dup, 1) := by decide +kernel
theorem dM_less_67 : decode cM_less 67 = .ok (.getfield 85, 3) := by decide +kernel
theorem dM_less_70 : decode cM_less 70 = .ok (.iconst 1, 1) := by decide +kernel
theorem dM_less_71 : decode cM_less 71 = .ok (.iadd, 1) := by decide +kernel
theorem dM_less_72 : decode cM_less 72 = .ok (.putfield 85, 3) := by decide +kernel
theorem dM_less_75 : decode cM_less 75 = .ok (.return_, 1) := by decide +kernel
theorem dM_takeAway_0 : decode cM_takeAway 0 = .ok (.aload_n 0, 1) := by decide +kernel
theorem dM_takeAway_1 : decode cM_takeAway 1 = .ok (.getfield 13, 3) := by decide +kernel
theorem dM_takeAway_4 : decode cM_takeAway 4 = .ok (.iload_n 1, 1) := by decide +kernel
theorem dM_takeAway_5 : decode cM_takeAway 5 = .ok (.iconst 0, 1) := by decide +kernel
theorem dM_takeAway_6 : decode cM_takeAway 6 = .ok (.bastore, 1) := by decide +kernel
theorem dM_takeAway_7 : decode cM_takeAway 7 = .ok (.aload_n 0, 1) := by decide +kernel
theorem dM_takeAway_8 : decode cM_takeAway 8 = .ok (.aload_n 0, 1) := by decide +kernel
theorem dM_takeAway_9 : decode cM_takeAway 9 = .ok (.getfield 17, 3) := by decide +kernel
theorem dM_takeAway_12 : decode cM_takeAway 12 = .ok (.iload_n 1, 1) := by decide +kernel
theorem dM_takeAway_13 : decode cM_takeAway 13 = .ok (.iaload, 1) := by decide +kernel
theorem dM_takeAway_14 : decode cM_takeAway 14 = .ok (.aload_n 0, 1) := by decide +kernel
theorem dM_takeAway_15 : decode cM_takeAway 15 = .ok (.getfield 20, 3) := by decide +kernel
theorem dM_takeAway_18 : decode cM_takeAway 18 = .ok (.iload_n 1, 1) := by decide +kernel
theorem dM_takeAway_19 : decode cM_takeAway 19 = .ok (.iaload, 1) := by decide +kernel
theorem dM_takeAway_20 : decode cM_takeAway 20 = .ok (.iconst 2, 1) := by decide +kernel
theorem dM_takeAway_21 : decode cM_takeAway 21 = .ok (.iadd, 1) := by decide +kernel
theorem dM_takeAway_22 : decode cM_takeAway 22 = .ok (.invokevirtual 54, 3) := by decide +kernel
theorem dM_takeAway_25 : decode cM_takeAway 25 = .ok (.return_, 1) := by decide +kernel
theorem dM_leaves_0 : decode cM_leaves 0 = .ok (.aload_n 0, 1) := by decide +kernel
theorem dM_leaves_1 : decode cM_leaves 1 = .ok (.iconst 0, 1) := by decide +kernel
theorem dM_leaves_2 : decode cM_leaves 2 = .ok (.putfield 85, 3) := by decide +kernel
theorem dM_leaves_5 : decode cM_leaves 5 = .ok (.aload_n 0, 1) := by decide +kernel
theorem dM_leaves_6 : decode cM_leaves 6 = .ok (.iload_n 1, 1) := by decide +kernel
theorem dM_leaves_7 : decode cM_leaves 7 = .ok (.invokevirtual 88, 3) := by decide +kernel
theorem dM_leaves_10 : decode cM_leaves 10 = .ok (.aload_n 0, 1) := by decide +kernel
theorem dM_leaves_11 : decode cM_leaves 11 = .ok (.getfield 85, 3) := by decide +kernel
theorem dM_leaves_14 : decode cM_leaves 14 = .ok (.ifCond .le 91, 3) := by decide +kernel
theorem dM_leaves_17 : decode cM_leaves 17 = .ok (.aload_n 0, 1) := by decide +kernel
theorem dM_leaves_18 : decode cM_leaves 18 = .ok (.getfield 38, 3) := by decide +kernel
theorem dM_leaves_21 : decode cM_leaves 21 = .ok (.aload_n 0, 1) := by decide +kernel
theorem dM_leaves_22 : decode cM_leaves 22 = .ok (.getfield 85, 3) := by decide +kernel
theorem dM_leaves_25 : decode cM_leaves 25 = .ok (.iconst 1, 1) := by decide +kernel
theorem dM_leaves_26 : decode cM_leaves 26 = .ok (.isub, 1) := by decide +kernel
theorem dM_leaves_27 : decode cM_leaves 27 = .ok (.iaload, 1) := by decide +kernel
theorem dM_leaves_28 : decode cM_leaves 28 = .ok (.istore_n 2, 1) := by decide +kernel
theorem dM_leaves_29 : decode cM_leaves 29 = .ok (.aload_n 0, 1) := by decide +kernel
theorem dM_leaves_30 : decode cM_leaves 30 = .ok (.getfield 41, 3) := by decide +kernel
theorem dM_leaves_33 : decode cM_leaves 33 = .ok (.aload_n 0, 1) := by decide +kernel
theorem dM_leaves_34 : decode cM_leaves 34 = .ok (.getfield 85, 3) := by decide +kernel
theorem dM_leaves_37 : decode cM_leaves 37 = .ok (.iconst 1, 1) := by decide +kernel
theorem dM_leaves_38 : decode cM_leaves 38 = .ok (.isub, 1) := by decide +kernel
theorem dM_leaves_39 : decode cM_leaves 39 = .ok (.iaload, 1) := by decide +kernel
theorem dM_leaves_40 : decode cM_leaves 40 = .ok (.istore_n 3, 1) := by decide +kernel
theorem dM_leaves_41 : decode cM_leaves 41 = .ok (.iload_n 3, 1) := by decide +kernel
theorem dM_leaves_42 : decode cM_leaves 42 = .ok (.aload_n 0, 1) := by decide +kernel
theorem dM_leaves_43 : decode cM_leaves 43 = .ok (.getfield 20, 3) := by decide +kernel
theorem dM_leaves_46 : decode cM_leaves 46 = .ok (.iload_n 2, 1) := by decide +kernel
theorem dM_leaves_47 : decode cM_leaves 47 = .ok (.iaload, 1) := by decide +kernel
theorem dM_leaves_48 : decode cM_leaves 48 = .ok (.if_icmp .le 21, 3) := by decide +kernel
theorem dM_leaves_51 : decode cM_leaves 51 = .ok (.aload_n 0, 1) := by decide +kernel
theorem dM_leaves_52 : decode cM_leaves 52 = .ok (.dup, 1) := by decide +kernel
theorem dM_leaves_53 : decode cM_leaves 53 = .ok (.getfield 85, 3) := by decide +kernel
theorem dM_leaves_56 : decode cM_leaves 56 = .ok (.iconst 1, 1) := by decide +kernel
theorem dM_leaves_57 : decode cM_leaves 57 = .ok (.isub, 1) := by decide +kernel
theorem dM_leaves_58 : decode cM_leaves 58 = .ok (.putfield 85, 3) := by decide +kernel
theorem dM_leaves_61 : decode cM_leaves 61 = .ok (.aload_n 0, 1) := by decide +kernel
theorem dM_leaves_62 : decode cM_leaves 62 = .ok (.iload_n 2, 1) := by decide +kernel
theorem dM_leaves_63 : decode cM_leaves 63 = .ok (.invokevirtual 92, 3) := by decide +kernel
theorem dM_leaves_66 : decode cM_leaves 66 = .ok (.goto 36, 3) := by decide +kernel
theorem dM_leaves_69 : decode cM_leaves 69 = .ok (.aload_n 0, 1) := by decide +kernel
theorem dM_leaves_70 : decode cM_leaves 70 = .ok (.getfield 41, 3) := by decide +kernel
theorem dM_leaves_73 : decode cM_leaves 73 = .ok (.aload_n 0, 1) := by decide +kernel
theorem dM_leaves_74 : decode cM_leaves 74 = .ok (.getfield 85, 3) := by decide +kernel
theorem dM_leaves_77 : decode cM_leaves 77 = .ok (.iconst 1, 1) := by decide +kernel
theorem dM_leaves_78 : decode cM_leaves 78 = .ok (.isub, 1) := by decide +kernel
theorem dM_leaves_79 : decode cM_leaves 79 = .ok (.iload_n 3, 1) := by decide +kernel
theorem dM_leaves_80 : decode cM_leaves 80 = .ok (.iconst 1, 1) := by decide +kernel
theorem dM_leaves_81 : decode cM_leaves 81 = .ok (.iadd, 1) := by decide +kernel
theorem dM_leaves_82 : decode cM_leaves 82 = .ok (.iastore, 1) := by decide +kernel
theorem dM_leaves_83 : decode cM_leaves 83 = .ok (.aload_n 0, 1) := by decide +kernel
theorem dM_leaves_84 : decode cM_leaves 84 = .ok (.aload_n 0, 1) := by decide +kernel
theorem dM_leaves_85 : decode cM_leaves 85 = .ok (.getfield 26, 3) := by decide +kernel
theorem dM_leaves_88 : decode cM_leaves 88 = .ok (.aload_n 0, 1) := by decide +kernel
theorem dM_leaves_89 : decode cM_leaves 89 = .ok (.getfield 17, 3) := by decide +kernel
theorem dM_leaves_92 : decode cM_leaves 92 = .ok (.iload_n 2, 1) := by decide +kernel
theorem dM_leaves_93 : decode cM_leaves 93 = .ok (.iaload, 1) := by decide +kernel
theorem dM_leaves_94 : decode cM_leaves 94 = .ok (.iconst 1, 1) := by decide +kernel
theorem dM_leaves_95 : decode cM_leaves 95 = .ok (.iadd, 1) := by decide +kernel
theorem dM_leaves_96 : decode cM_leaves 96 = .ok (.iload_n 3, 1) := by decide +kernel
theorem dM_leaves_97 : decode cM_leaves 97 = .ok (.iadd, 1) := by decide +kernel
theorem dM_leaves_98 : decode cM_leaves 98 = .ok (.iaload, 1) := by decide +kernel
theorem dM_leaves_99 : decode cM_leaves 99 = .ok (.invokevirtual 88, 3) := by decide +kernel
theorem dM_leaves_102 : decode cM_leaves 102 = .ok (.goto (-92), 3) := by decide +kernel
theorem dM_leaves_105 : decode cM_leaves 105 = .ok (.return_, 1) := by decide +kernel
theorem dM_replace_0 : decode cM_replace 0 = .ok (.aload_n 0, 1) := by decide +kernel
theorem dM_replace_1 : decode cM_replace 1 = .ok (.iload_n 2, 1) := by decide +kernel
theorem dM_replace_2 : decode cM_replace 2 = .ok (.invokevirtual 95, 3) := by decide +kernel
theorem dM_replace_5 : decode cM_replace 5 = .ok (.aload_n 0, 1) := by decide +kernel
theorem dM_replace_6 : decode cM_replace 6 = .ok (.iload_n 1, 1) := by decide +kernel
theorem dM_replace_7 : decode cM_replace 7 = .ok (.invokevirtual 98, 3) := by decide +kernel
theorem dM_replace_10 : decode cM_replace 10 = .ok (.iload_n 1, 1) := by decide +kernel
theorem dM_replace_11 : decode cM_replace 11 = .ok (.ireturn, 1) := by decide +kernel
theorem dM_reach_0 : decode cM_reach 0 = .ok (.iload_n 1, 1) := by decide +kernel
theorem dM_reach_1 : decode cM_reach 1 = .ok (.invokestatic 61, 3) := by decide +kernel
theorem dM_reach_4 : decode cM_reach 4 = .ok (.ifCond .eq 18, 3) := by decide +kernel
theorem dM_reach_7 : decode cM_reach 7 = .ok (.aload_n 0, 1) := by decide +kernel
theorem dM_reach_8 : decode cM_reach 8 = .ok (.getfield 44, 3) := by decide +kernel
theorem dM_reach_11 : decode cM_reach 11 = .ok (.iload_n 1, 1) := by decide +kernel
theorem dM_reach_12 : decode cM_reach 12 = .ok (.iconst 2, 1) := by decide +kernel
theorem dM_reach_13 : decode cM_reach 13 = .ok (.idiv, 1) := by decide +kernel
theorem dM_reach_14 : decode cM_reach 14 = .ok (.baload, 1) := by decide +kernel
theorem dM_reach_15 : decode cM_reach 15 = .ok (.ifCond .ne 7, 3) := by decide +kernel
theorem dM_reach_18 : decode cM_reach 18 = .ok (.iconst 1, 1) := by decide +kernel
theorem dM_reach_19 : decode cM_reach 19 = .ok (.goto 4, 3) := by decide +kernel
theorem dM_reach_22 : decode cM_reach 22 = .ok (.iconst 0, 1) := by decide +kernel
theorem dM_reach_23 : decode cM_reach 23 = .ok (.istore_n 2, 1) := by decide +kernel
theorem dM_reach_24 : decode cM_reach 24 = .ok (.iload_n 2, 1) := by decide +kernel
theorem dM_reach_25 : decode cM_reach 25 = .ok (.ifCond .eq 12, 3) := by decide +kernel
theorem dM_reach_28 : decode cM_reach 28 = .ok (.aload_n 0, 1) := by decide +kernel
theorem dM_reach_29 : decode cM_reach 29 = .ok (.getfield 44, 3) := by decide +kernel
theorem dM_reach_32 : decode cM_reach 32 = .ok (.iload_n 1, 1) := by decide +kernel
theorem dM_reach_33 : decode cM_reach 33 = .ok (.iconst 2, 1) := by decide +kernel
theorem dM_reach_34 : decode cM_reach 34 = .ok (.idiv, 1) := by decide +kernel
theorem dM_reach_35 : decode cM_reach 35 = .ok (.iconst 1, 1) := by decide +kernel
theorem dM_reach_36 : decode cM_reach 36 = .ok (.bastore, 1) := by decide +kernel
theorem dM_reach_37 : decode cM_reach 37 = .ok (.iload_n 2, 1) := by decide +kernel
theorem dM_reach_38 : decode cM_reach 38 = .ok (.ireturn, 1) := by decide +kernel
theorem dM_spread_0 : decode cM_spread 0 = .ok (.iconst 0, 1) := by decide +kernel
theorem dM_spread_1 : decode cM_spread 1 = .ok (.istore_n 2, 1) := by decide +kernel
theorem dM_spread_2 : decode cM_spread 2 = .ok (.iconst 0, 1) := by decide +kernel
theorem dM_spread_3 : decode cM_spread 3 = .ok (.istore_n 3, 1) := by decide +kernel
theorem dM_spread_4 : decode cM_spread 4 = .ok (.iload_n 3, 1) := by decide +kernel
theorem dM_spread_5 : decode cM_spread 5 = .ok (.aload_n 0, 1) := by decide +kernel
theorem dM_spread_6 : decode cM_spread 6 = .ok (.getfield 20, 3) := by decide +kernel
theorem dM_spread_9 : decode cM_spread 9 = .ok (.iload_n 1, 1) := by decide +kernel
theorem dM_spread_10 : decode cM_spread 10 = .ok (.iaload, 1) := by decide +kernel
theorem dM_spread_11 : decode cM_spread 11 = .ok (.if_icmp .gt 45, 3) := by decide +kernel
theorem dM_spread_14 : decode cM_spread 14 = .ok (.aload_n 0, 1) := by decide +kernel
theorem dM_spread_15 : decode cM_spread 15 = .ok (.aload_n 0, 1) := by decide +kernel
theorem dM_spread_16 : decode cM_spread 16 = .ok (.getfield 26, 3) := by decide +kernel
theorem dM_spread_19 : decode cM_spread 19 = .ok (.aload_n 0, 1) := by decide +kernel
theorem dM_spread_20 : decode cM_spread 20 = .ok (.getfield 17, 3) := by decide +kernel
theorem dM_spread_23 : decode cM_spread 23 = .ok (.iload_n 1, 1) := by decide +kernel
theorem dM_spread_24 : decode cM_spread 24 = .ok (.iaload, 1) := by decide +kernel
theorem dM_spread_25 : decode cM_spread 25 = .ok (.iconst 1, 1) := by decide +kernel
theorem dM_spread_26 : decode cM_spread 26 = .ok (.iadd, 1) := by decide +kernel
theorem dM_spread_27 : decode cM_spread 27 = .ok (.iload_n 3, 1) := by decide +kernel
theorem dM_spread_28 : decode cM_spread 28 = .ok (.iadd, 1) := by decide +kernel
theorem dM_spread_29 : decode cM_spread 29 = .ok (.iaload, 1) := by decide +kernel
theorem dM_spread_30 : decode cM_spread 30 = .ok (.invokevirtual 101, 3) := by decide +kernel
theorem dM_spread_33 : decode cM_spread 33 = .ok (.istore 4, 2) := by decide +kernel
theorem dM_spread_35 : decode cM_spread 35 = .ok (.iload_n 2, 1) := by decide +kernel
theorem dM_spread_36 : decode cM_spread 36 = .ok (.ifCond .ne 8, 3) := by decide +kernel
theorem dM_spread_39 : decode cM_spread 39 = .ok (.iload 4, 2) := by decide +kernel
theorem dM_spread_41 : decode cM_spread 41 = .ok (.ifCond .eq 7, 3) := by decide +kernel
theorem dM_spread_44 : decode cM_spread 44 = .ok (.iconst 1, 1) := by decide +kernel
theorem dM_spread_45 : decode cM_spread 45 = .ok (.goto 4, 3) := by decide +kernel
theorem dM_spread_48 : decode cM_spread 48 = .ok (.iconst 0, 1) := by decide +kernel
theorem dM_spread_49 : decode cM_spread 49 = .ok (.istore_n 2, 1) := by decide +kernel
theorem dM_spread_50 : decode cM_spread 50 = .ok (.iinc 3 1, 3) := by decide +kernel
theorem dM_spread_53 : decode cM_spread 53 = .ok (.goto (-49), 3) := by decide +kernel
theorem dM_spread_56 : decode cM_spread 56 = .ok (.iload_n 2, 1) := by decide +kernel
theorem dM_spread_57 : decode cM_spread 57 = .ok (.ireturn, 1) := by decide +kernel
theorem dM_gather_0 : decode cM_gather 0 = .ok (.iconst 1, 1) := by decide +kernel
theorem dM_gather_1 : decode cM_gather 1 = .ok (.istore_n 2, 1) := by decide +kernel
theorem dM_gather_2 : decode cM_gather 2 = .ok (.iload_n 2, 1) := by decide +kernel
theorem dM_gather_3 : decode cM_gather 3 = .ok (.aload_n 0, 1) := by decide +kernel
theorem dM_gather_4 : decode cM_gather 4 = .ok (.getfield 51, 3) := by decide +kernel
theorem dM_gather_7 : decode cM_gather 7 = .ok (.if_icmp .gt 16, 3) := by decide +kernel
theorem dM_gather_10 : decode cM_gather 10 = .ok (.aload_n 0, 1) := by decide +kernel
theorem dM_gather_11 : decode cM_gather 11 = .ok (.getfield 44, 3) := by decide +kernel
theorem dM_gather_14 : decode cM_gather 14 = .ok (.iload_n 2, 1) := by decide +kernel
theorem dM_gather_15 : decode cM_gather 15 = .ok (.iconst 0, 1) := by decide +kernel
theorem dM_gather_16 : decode cM_gather 16 = .ok (.bastore, 1) := by decide +kernel
theorem dM_gather_17 : decode cM_gather 17 = .ok (.iinc 2 1, 3) := by decide +kernel
theorem dM_gather_20 : decode cM_gather 20 = .ok (.goto (-18), 3) := by decide +kernel
theorem dM_gather_23 : decode cM_gather 23 = .ok (.aload_n 0, 1) := by decide +kernel
theorem dM_gather_24 : decode cM_gather 24 = .ok (.iload_n 1, 1) := by decide +kernel
theorem dM_gather_25 : decode cM_gather 25 = .ok (.invokevirtual 101, 3) := by decide +kernel
theorem dM_gather_28 : decode cM_gather 28 = .ok (.istore_n 2, 1) := by decide +kernel
theorem dM_gather_29 : decode cM_gather 29 = .ok (.iconst 0, 1) := by decide +kernel
theorem dM_gather_30 : decode cM_gather 30 = .ok (.istore_n 3, 1) := by decide +kernel
theorem dM_gather_31 : decode cM_gather 31 = .ok (.iload_n 3, 1) := by decide +kernel
theorem dM_gather_32 : decode cM_gather 32 = .ok (.bipush 8, 2) := by decide +kernel
theorem dM_gather_34 : decode cM_gather 34 = .ok (.if_icmp .ge 36, 3) := by decide +kernel
theorem dM_gather_37 : decode cM_gather 37 = .ok (.aload_n 0, 1) := by decide +kernel
theorem dM_gather_38 : decode cM_gather 38 = .ok (.aload_n 0, 1) := by decide +kernel
theorem dM_gather_39 : decode cM_gather 39 = .ok (.getfield 7, 3) := by decide +kernel
theorem dM_gather_42 : decode cM_gather 42 = .ok (.iload_n 3, 1) := by decide +kernel
theorem dM_gather_43 : decode cM_gather 43 = .ok (.iaload, 1) := by decide +kernel
theorem dM_gather_44 : decode cM_gather 44 = .ok (.invokevirtual 101, 3) := by decide +kernel
theorem dM_gather_47 : decode cM_gather 47 = .ok (.istore 4, 2) := by decide +kernel
theorem dM_gather_49 : decode cM_gather 49 = .ok (.iload_n 2, 1) := by decide +kernel
theorem dM_gather_50 : decode cM_gather 50 = .ok (.ifCond .ne 8, 3) := by decide +kernel
theorem dM_gather_53 : decode cM_gather 53 = .ok (.iload 4, 2) := by decide +kernel
theorem dM_gather_55 : decode cM_gather 55 = .ok (.ifCond .eq 7, 3) := by decide +kernel
theorem dM_gather_58 : decode cM_gather 58 = .ok (.iconst 1, 1) := by decide +kernel
theorem dM_gather_59 : decode cM_gather 59 = .ok (.goto 4, 3) := by decide +kernel
theorem dM_gather_62 : decode cM_gather 62 = .ok (.iconst 0, 1) := by decide +kernel
theorem dM_gather_63 : decode cM_gather 63 = .ok (.istore_n 2, 1) := by decide +kernel
theorem dM_gather_64 : decode cM_gather 64 = .ok (.iinc 3 1, 3) := by decide +kernel
theorem dM_gather_67 : decode cM_gather 67 = .ok (.goto (-36), 3) := by decide +kernel
theorem dM_gather_70 : decode cM_gather 70 = .ok (.iload_n 2, 1) := by decide +kernel
theorem dM_gather_71 : decode cM_gather 71 = .ok (.ifCond .eq 72, 3) := by decide +kernel
theorem dM_gather_74 : decode cM_gather 74 = .ok (.iconst 0, 1) := by decide +kernel
theorem dM_gather_75 : decode cM_gather 75 = .ok (.istore_n 2, 1) := by decide +kernel
theorem dM_gather_76 : decode cM_gather 76 = .ok (.iconst 1, 1) := by decide +kernel
theorem dM_gather_77 : decode cM_gather 77 = .ok (.istore_n 3, 1) := by decide +kernel
theorem dM_gather_78 : decode cM_gather 78 = .ok (.iload_n 3, 1) := by decide +kernel
theorem dM_gather_79 : decode cM_gather 79 = .ok (.aload_n 0, 1) := by decide +kernel
theorem dM_gather_80 : decode cM_gather 80 = .ok (.getfield 51, 3) := by decide +kernel
theorem dM_gather_83 : decode cM_gather 83 = .ok (.if_icmp .gt 57, 3) := by decide +kernel
theorem dM_gather_86 : decode cM_gather 86 = .ok (.aload_n 0, 1) := by decide +kernel
theorem dM_gather_87 : decode cM_gather 87 = .ok (.getfield 13, 3) := by decide +kernel
theorem dM_gather_90 : decode cM_gather 90 = .ok (.iload_n 3, 1) := by decide +kernel
theorem dM_gather_91 : decode cM_gather 91 = .ok (.baload, 1) := by decide +kernel
theorem dM_gather_92 : decode cM_gather 92 = .ok (.ifCond .eq 24, 3) := by decide +kernel
theorem dM_gather_95 : decode cM_gather 95 = .ok (.aload_n 0, 1) := by decide +kernel
theorem dM_gather_96 : decode cM_gather 96 = .ok (.getfield 44, 3) := by decide +kernel
theorem dM_gather_99 : decode cM_gather 99 = .ok (.iload_n 3, 1) := by decide +kernel
theorem dM_gather_100 : decode cM_gather 100 = .ok (.baload, 1) := by decide +kernel
theorem dM_gather_101 : decode cM_gather 101 = .ok (.ifCond .eq 15, 3) := by decide +kernel
theorem dM_gather_104 : decode cM_gather 104 = .ok (.aload_n 0, 1) := by decide +kernel
theorem dM_gather_105 : decode cM_gather 105 = .ok (.iload_n 3, 1) := by decide +kernel
theorem dM_gather_106 : decode cM_gather 106 = .ok (.invokevirtual 104, 3) := by decide +kernel
theorem dM_gather_109 : decode cM_gather 109 = .ok (.ifCond .eq 7, 3) := by decide +kernel
theorem dM_gather_112 : decode cM_gather 112 = .ok (.iconst 1, 1) := by decide +kernel
theorem dM_gather_113 : decode cM_gather 113 = .ok (.goto 4, 3) := by decide +kernel
theorem dM_gather_116 : decode cM_gather 116 = .ok (.iconst 0, 1) := by decide +kernel
theorem dM_gather_117 : decode cM_gather 117 = .ok (.istore 4, 2) := by decide +kernel
theorem dM_gather_119 : decode cM_gather 119 = .ok (.iload_n 2, 1) := by decide +kernel
theorem dM_gather_120 : decode cM_gather 120 = .ok (.ifCond .ne 8, 3) := by decide +kernel
theorem dM_gather_123 : decode cM_gather 123 = .ok (.iload 4, 2) := by decide +kernel
theorem dM_gather_125 : decode cM_gather 125 = .ok (.ifCond .eq 7, 3) := by decide +kernel
theorem dM_gather_128 : decode cM_gather 128 = .ok (.iconst 1, 1) := by decide +kernel
theorem dM_gather_129 : decode cM_gather 129 = .ok (.goto 4, 3) := by decide +kernel
theorem dM_gather_132 : decode cM_gather 132 = .ok (.iconst 0, 1) := by decide +kernel
theorem dM_gather_133 : decode cM_gather 133 = .ok (.istore_n 2, 1) := by decide +kernel
theorem dM_gather_134 : decode cM_gather 134 = .ok (.iinc 3 1, 3) := by decide +kernel
theorem dM_gather_137 : decode cM_gather 137 = .ok (.goto (-59), 3) := by decide +kernel
theorem dM_gather_140 : decode cM_gather 140 = .ok (.goto (-70), 3) := by decide +kernel
theorem dM_gather_143 : decode cM_gather 143 = .ok (.iconst 0, 1) := by decide +kernel
theorem dM_gather_144 : decode cM_gather 144 = .ok (.istore_n 3, 1) := by decide +kernel
theorem dM_gather_145 : decode cM_gather 145 = .ok (.iconst 1, 1) := by decide +kernel
theorem dM_gather_146 : decode cM_gather 146 = .ok (.istore 4, 2) := by decide +kernel
theorem dM_gather_148 : decode cM_gather 148 = .ok (.iload 4, 2) := by decide +kernel
theorem dM_gather_150 : decode cM_gather 150 = .ok (.aload_n 0, 1) := by decide +kernel
theorem dM_gather_151 : decode cM_gather 151 = .ok (.getfield 51, 3) := by decide +kernel
theorem dM_gather_154 : decode cM_gather 154 = .ok (.if_icmp .gt 46, 3) := by decide +kernel
theorem dM_gather_157 : decode cM_gather 157 = .ok (.aload_n 0, 1) := by decide +kernel
theorem dM_gather_158 : decode cM_gather 158 = .ok (.getfield 23, 3) := by decide +kernel
theorem dM_gather_161 : decode cM_gather 161 = .ok (.iload 4, 2) := by decide +kernel
theorem dM_gather_163 : decode cM_gather 163 = .ok (.iconst 0, 1) := by decide +kernel
theorem dM_gather_164 : decode cM_gather 164 = .ok (.iastore, 1) := by decide +kernel
theorem dM_gather_165 : decode cM_gather 165 = .ok (.aload_n 0, 1) := by decide +kernel
theorem dM_gather_166 : decode cM_gather 166 = .ok (.getfield 13, 3) := by decide +kernel
theorem dM_gather_169 : decode cM_gather 169 = .ok (.iload 4, 2) := by decide +kernel
theorem dM_gather_171 : decode cM_gather 171 = .ok (.baload, 1) := by decide +kernel
theorem dM_gather_172 : decode cM_gather 172 = .ok (.ifCond .eq 22, 3) := by decide +kernel
theorem dM_gather_175 : decode cM_gather 175 = .ok (.aload_n 0, 1) := by decide +kernel
theorem dM_gather_176 : decode cM_gather 176 = .ok (.getfield 44, 3) := by decide +kernel
theorem dM_gather_179 : decode cM_gather 179 = .ok (.iload 4, 2) := by decide +kernel
theorem dM_gather_181 : decode cM_gather 181 = .ok (.baload, 1) := by decide +kernel
theorem dM_gather_182 : decode cM_gather 182 = .ok (.ifCond .ne 12, 3) := by decide +kernel
theorem dM_gather_185 : decode cM_gather 185 = .ok (.aload_n 0, 1) := by decide +kernel
theorem dM_gather_186 : decode cM_gather 186 = .ok (.iload 4, 2) := by decide +kernel
theorem dM_gather_188 : decode cM_gather 188 = .ok (.invokevirtual 92, 3) := by decide +kernel
theorem dM_gather_191 : decode cM_gather 191 = .ok (.iinc 3 1, 3) := by decide +kernel
theorem dM_gather_194 : decode cM_gather 194 = .ok (.iinc 4 1, 3) := by decide +kernel
theorem dM_gather_197 : decode cM_gather 197 = .ok (.goto (-49), 3) := by decide +kernel
theorem dM_gather_200 : decode cM_gather 200 = .ok (.iconst 0, 1) := by decide +kernel
theorem dM_gather_201 : decode cM_gather 201 = .ok (.istore 4, 2) := by decide +kernel
theorem dM_gather_203 : decode cM_gather 203 = .ok (.iload 4, 2) := by decide +kernel
theorem dM_gather_205 : decode cM_gather 205 = .ok (.bipush 8, 2) := by decide +kernel
theorem dM_gather_207 : decode cM_gather 207 = .ok (.if_icmp .ge 20, 3) := by decide +kernel
theorem dM_gather_210 : decode cM_gather 210 = .ok (.aload_n 0, 1) := by decide +kernel
theorem dM_gather_211 : decode cM_gather 211 = .ok (.aload_n 0, 1) := by decide +kernel
theorem dM_gather_212 : decode cM_gather 212 = .ok (.getfield 7, 3) := by decide +kernel
theorem dM_gather_215 : decode cM_gather 215 = .ok (.iload 4, 2) := by decide +kernel
theorem dM_gather_217 : decode cM_gather 217 = .ok (.iaload, 1) := by decide +kernel
theorem dM_gather_218 : decode cM_gather 218 = .ok (.invokevirtual 95, 3) := by decide +kernel
theorem dM_gather_221 : decode cM_gather 221 = .ok (.iinc 4 1, 3) := by decide +kernel
theorem dM_gather_224 : decode cM_gather 224 = .ok (.goto (-21), 3) := by decide +kernel
theorem dM_gather_227 : decode cM_gather 227 = .ok (.iconst 1, 1) := by decide +kernel
theorem dM_gather_228 : decode cM_gather 228 = .ok (.istore 4, 2) := by decide +kernel
theorem dM_gather_230 : decode cM_gather 230 = .ok (.iload 4, 2) := by decide +kernel
theorem dM_gather_232 : decode cM_gather 232 = .ok (.aload_n 0, 1) := by decide +kernel
theorem dM_gather_233 : decode cM_gather 233 = .ok (.getfield 51, 3) := by decide +kernel
theorem dM_gather_236 : decode cM_gather 236 = .ok (.if_icmp .gt 61, 3) := by decide +kernel
theorem dM_gather_239 : decode cM_gather 239 = .ok (.iconst 0, 1) := by decide +kernel
theorem dM_gather_240 : decode cM_gather 240 = .ok (.istore 5, 2) := by decide +kernel
theorem dM_gather_242 : decode cM_gather 242 = .ok (.aload_n 0, 1) := by decide +kernel
theorem dM_gather_243 : decode cM_gather 243 = .ok (.getfield 13, 3) := by decide +kernel
theorem dM_gather_246 : decode cM_gather 246 = .ok (.iload 4, 2) := by decide +kernel
theorem dM_gather_248 : decode cM_gather 248 = .ok (.baload, 1) := by decide +kernel
theorem dM_gather_249 : decode cM_gather 249 = .ok (.ifCond .eq 42, 3) := by decide +kernel
theorem dM_gather_252 : decode cM_gather 252 = .ok (.iload 5, 2) := by decide +kernel
theorem dM_gather_254 : decode cM_gather 254 = .ok (.aload_n 0, 1) := by decide +kernel
theorem dM_gather_255 : decode cM_gather 255 = .ok (.getfield 20, 3) := by decide +kernel
theorem dM_gather_258 : decode cM_gather 258 = .ok (.iload 4, 2) := by decide +kernel
theorem dM_gather_260 : decode cM_gather 260 = .ok (.iaload, 1) := by decide +kernel
theorem dM_gather_261 : decode cM_gather 261 = .ok (.if_icmp .gt 30, 3) := by decide +kernel
theorem dM_gather_264 : decode cM_gather 264 = .ok (.aload_n 0, 1) := by decide +kernel
theorem dM_gather_265 : decode cM_gather 265 = .ok (.aload_n 0, 1) := by decide +kernel
theorem dM_gather_266 : decode cM_gather 266 = .ok (.getfield 26, 3) := by decide +kernel
theorem dM_gather_269 : decode cM_gather 269 = .ok (.aload_n 0, 1) := by decide +kernel
theorem dM_gather_270 : decode cM_gather 270 = .ok (.getfield 17, 3) := by decide +kernel
theorem dM_gather_273 : decode cM_gather 273 = .ok (.iload 4, 2) := by decide +kernel
theorem dM_gather_275 : decode cM_gather 275 = .ok (.iaload, 1) := by decide +kernel
theorem dM_gather_276 : decode cM_gather 276 = .ok (.iconst 1, 1) := by decide +kernel
theorem dM_gather_277 : decode cM_gather 277 = .ok (.iadd, 1) := by decide +kernel
theorem dM_gather_278 : decode cM_gather 278 = .ok (.iload 5, 2) := by decide +kernel
theorem dM_gather_280 : decode cM_gather 280 = .ok (.iadd, 1) := by decide +kernel
theorem dM_gather_281 : decode cM_gather 281 = .ok (.iaload, 1) := by decide +kernel
theorem dM_gather_282 : decode cM_gather 282 = .ok (.invokevirtual 95, 3) := by decide +kernel
theorem dM_gather_285 : decode cM_gather 285 = .ok (.iinc 5 1, 3) := by decide +kernel
theorem dM_gather_288 : decode cM_gather 288 = .ok (.goto (-46), 3) := by decide +kernel
theorem dM_gather_291 : decode cM_gather 291 = .ok (.iinc 4 1, 3) := by decide +kernel
theorem dM_gather_294 : decode cM_gather 294 = .ok (.goto (-64), 3) := by decide +kernel
theorem dM_gather_297 : decode cM_gather 297 = .ok (.iload_n 3, 1) := by decide +kernel
theorem dM_gather_298 : decode cM_gather 298 = .ok (.ireturn, 1) := by decide +kernel
theorem dM_freeEntry_0 : decode cM_freeEntry 0 = .ok (.iconst 1, 1) := by decide +kernel
theorem dM_freeEntry_1 : decode cM_freeEntry 1 = .ok (.istore_n 1, 1) := by decide +kernel
theorem dM_freeEntry_2 : decode cM_freeEntry 2 = .ok (.iload_n 1, 1) := by decide +kernel
theorem dM_freeEntry_3 : decode cM_freeEntry 3 = .ok (.aload_n 0, 1) := by decide +kernel
theorem dM_freeEntry_4 : decode cM_freeEntry 4 = .ok (.getfield 51, 3) := by decide +kernel
theorem dM_freeEntry_7 : decode cM_freeEntry 7 = .ok (.if_icmp .gt 20, 3) := by decide +kernel
theorem dM_freeEntry_10 : decode cM_freeEntry 10 = .ok (.aload_n 0, 1) := by decide +kernel
theorem dM_freeEntry_11 : decode cM_freeEntry 11 = .ok (.getfield 13, 3) := by decide +kernel
theorem dM_freeEntry_14 : decode cM_freeEntry 14 = .ok (.iload_n 1, 1) := by decide +kernel
theorem dM_freeEntry_15 : decode cM_freeEntry 15 = .ok (.baload, 1) := by decide +kernel
theorem dM_freeEntry_16 : decode cM_freeEntry 16 = .ok (.ifCond .ne 5, 3) := by decide +kernel
theorem dM_freeEntry_19 : decode cM_freeEntry 19 = .ok (.iload_n 1, 1) := by decide +kernel
theorem dM_freeEntry_20 : decode cM_freeEntry 20 = .ok (.ireturn, 1) := by decide +kernel
theorem dM_freeEntry_21 : decode cM_freeEntry 21 = .ok (.iinc 1 1, 3) := by decide +kernel
theorem dM_freeEntry_24 : decode cM_freeEntry 24 = .ok (.goto (-22), 3) := by decide +kernel
theorem dM_freeEntry_27 : decode cM_freeEntry 27 = .ok (.iconst 0, 1) := by decide +kernel
theorem dM_freeEntry_28 : decode cM_freeEntry 28 = .ok (.ireturn, 1) := by decide +kernel
theorem dM_instantiate_0 : decode cM_instantiate 0 = .ok (.aload_n 0, 1) := by decide +kernel
theorem dM_instantiate_1 : decode cM_instantiate 1 = .ok (.iload_n 1, 1) := by decide +kernel
theorem dM_instantiate_2 : decode cM_instantiate 2 = .ok (.invokestatic 107, 3) := by decide +kernel
theorem dM_instantiate_5 : decode cM_instantiate 5 = .ok (.ifCond .ne 7, 3) := by decide +kernel
theorem dM_instantiate_8 : decode cM_instantiate 8 = .ok (.iconst 1, 1) := by decide +kernel
theorem dM_instantiate_9 : decode cM_instantiate 9 = .ok (.goto 26, 3) := by decide +kernel
theorem dM_instantiate_12 : decode cM_instantiate 12 = .ok (.aload_n 0, 1) := by decide +kernel
theorem dM_instantiate_13 : decode cM_instantiate 13 = .ok (.iload_n 2, 1) := by decide +kernel
theorem dM_instantiate_14 : decode cM_instantiate 14 = .ok (.invokevirtual 110, 3) := by decide +kernel
theorem dM_instantiate_17 : decode cM_instantiate 17 = .ok (.ifCond .eq 13, 3) := by decide +kernel
theorem dM_instantiate_20 : decode cM_instantiate 20 = .ok (.iload_n 3, 1) := by decide +kernel
theorem dM_instantiate_21 : decode cM_instantiate 21 = .ok (.ifCond .lt 9, 3) := by decide +kernel
theorem dM_instantiate_24 : decode cM_instantiate 24 = .ok (.iload_n 3, 1) := by decide +kernel
theorem dM_instantiate_25 : decode cM_instantiate 25 = .ok (.bipush 20, 2) := by decide +kernel
theorem dM_instantiate_27 : decode cM_instantiate 27 = .ok (.if_icmp .le 7, 3) := by decide +kernel
theorem dM_instantiate_30 : decode cM_instantiate 30 = .ok (.iconst 2, 1) := by decide +kernel
theorem dM_instantiate_31 : decode cM_instantiate 31 = .ok (.goto 4, 3) := by decide +kernel
theorem dM_instantiate_34 : decode cM_instantiate 34 = .ok (.iconst 0, 1) := by decide +kernel
theorem dM_instantiate_35 : decode cM_instantiate 35 = .ok (.putfield 58, 3) := by decide +kernel
theorem dM_instantiate_38 : decode cM_instantiate 38 = .ok (.aload_n 0, 1) := by decide +kernel
theorem dM_instantiate_39 : decode cM_instantiate 39 = .ok (.getfield 58, 3) := by decide +kernel
theorem dM_instantiate_42 : decode cM_instantiate 42 = .ok (.ifCond .eq 5, 3) := by decide +kernel
theorem dM_instantiate_45 : decode cM_instantiate 45 = .ok (.iconst 0, 1) := by decide +kernel
theorem dM_instantiate_46 : decode cM_instantiate 46 = .ok (.ireturn, 1) := by decide +kernel
theorem dM_instantiate_47 : decode cM_instantiate 47 = .ok (.aload_n 0, 1) := by decide +kernel
theorem dM_instantiate_48 : decode cM_instantiate 48 = .ok (.invokevirtual 113, 3) := by decide +kernel
theorem dM_instantiate_51 : decode cM_instantiate 51 = .ok (.ifCond .ne 7, 3) := by decide +kernel
theorem dM_instantiate_54 : decode cM_instantiate 54 = .ok (.iconst 1, 1) := by decide +kernel
theorem dM_instantiate_55 : decode cM_instantiate 55 = .ok (.goto 4, 3) := by decide +kernel
theorem dM_instantiate_58 : decode cM_instantiate 58 = .ok (.iconst 0, 1) := by decide +kernel
theorem dM_instantiate_59 : decode cM_instantiate 59 = .ok (.istore 4, 2) := by decide +kernel
theorem dM_instantiate_61 : decode cM_instantiate 61 = .ok (.iload 4, 2) := by decide +kernel
theorem dM_instantiate_63 : decode cM_instantiate 63 = .ok (.ifCond .eq 10, 3) := by decide +kernel
theorem dM_instantiate_66 : decode cM_instantiate 66 = .ok (.aload_n 0, 1) := by decide +kernel
theorem dM_instantiate_67 : decode cM_instantiate 67 = .ok (.iload_n 2, 1) := by decide +kernel
theorem dM_instantiate_68 : decode cM_instantiate 68 = .ok (.invokevirtual 116, 3) := by decide +kernel
theorem dM_instantiate_71 : decode cM_instantiate 71 = .ok (.istore 5, 2) := by decide +kernel
theorem dM_instantiate_73 : decode cM_instantiate 73 = .ok (.aload_n 0, 1) := by decide +kernel
theorem dM_instantiate_74 : decode cM_instantiate 74 = .ok (.invokevirtual 113, 3) := by decide +kernel
theorem dM_instantiate_77 : decode cM_instantiate 77 = .ok (.ifCond .ne 7, 3) := by decide +kernel
theorem dM_instantiate_80 : decode cM_instantiate 80 = .ok (.iconst (-1), 1) := by decide +kernel
theorem dM_instantiate_81 : decode cM_instantiate 81 = .ok (.goto 10, 3) := by decide +kernel
theorem dM_instantiate_84 : decode cM_instantiate 84 = .ok (.aload_n 0, 1) := by decide +kernel
theorem dM_instantiate_85 : decode cM_instantiate 85 = .ok (.iload_n 3, 1) := by decide +kernel
theorem dM_instantiate_86 : decode cM_instantiate 86 = .ok (.iconst 2, 1) := by decide +kernel
theorem dM_instantiate_87 : decode cM_instantiate 87 = .ok (.iadd, 1) := by decide +kernel
theorem dM_instantiate_88 : decode cM_instantiate 88 = .ok (.invokevirtual 119, 3) := by decide +kernel
theorem dM_instantiate_91 : decode cM_instantiate 91 = .ok (.istore 5, 2) := by decide +kernel
theorem dM_instantiate_93 : decode cM_instantiate 93 = .ok (.iload 5, 2) := by decide +kernel
theorem dM_instantiate_95 : decode cM_instantiate 95 = .ok (.ifCond .ge 24, 3) := by decide +kernel
theorem dM_instantiate_98 : decode cM_instantiate 98 = .ok (.iload 4, 2) := by decide +kernel
theorem dM_instantiate_100 : decode cM_instantiate 100 = .ok (.ifCond .ne 19, 3) := by decide +kernel
theorem dM_instantiate_103 : decode cM_instantiate 103 = .ok (.aload_n 0, 1) := by decide +kernel
theorem dM_instantiate_104 : decode cM_instantiate 104 = .ok (.iload_n 2, 1) := by decide +kernel
theorem dM_instantiate_105 : decode cM_instantiate 105 = .ok (.invokevirtual 116, 3) := by decide +kernel
theorem dM_instantiate_108 : decode cM_instantiate 108 = .ok (.istore 6, 2) := by decide +kernel
theorem dM_instantiate_110 : decode cM_instantiate 110 = .ok (.aload_n 0, 1) := by decide +kernel
theorem dM_instantiate_111 : decode cM_instantiate 111 = .ok (.iload_n 3, 1) := by decide +kernel
theorem dM_instantiate_112 : decode cM_instantiate 112 = .ok (.iconst 2, 1) := by decide +kernel
theorem dM_instantiate_113 : decode cM_instantiate 113 = .ok (.iadd, 1) := by decide +kernel
theorem dM_instantiate_114 : decode cM_instantiate 114 = .ok (.invokevirtual 119, 3) := by decide +kernel
theorem dM_instantiate_117 : decode cM_instantiate 117 = .ok (.istore 5, 2) := by decide +kernel
theorem dM_instantiate_119 : decode cM_instantiate 119 = .ok (.iload 5, 2) := by decide +kernel
theorem dM_instantiate_121 : decode cM_instantiate 121 = .ok (.ifCond .ge 10, 3) := by decide +kernel
theorem dM_instantiate_124 : decode cM_instantiate 124 = .ok (.aload_n 0, 1) := by decide +kernel
theorem dM_instantiate_125 : decode cM_instantiate 125 = .ok (.iconst 3, 1) := by decide +kernel
theorem dM_instantiate_126 : decode cM_instantiate 126 = .ok (.putfield 58, 3) := by decide +kernel
theorem dM_instantiate_129 : decode cM_instantiate 129 = .ok (.iconst 0, 1) := by decide +kernel
theorem dM_instantiate_130 : decode cM_instantiate 130 = .ok (.ireturn, 1) := by decide +kernel
theorem dM_instantiate_131 : decode cM_instantiate 131 = .ok (.aload_n 0, 1) := by decide +kernel
theorem dM_instantiate_132 : decode cM_instantiate 132 = .ok (.invokevirtual 113, 3) := by decide +kernel
theorem dM_instantiate_135 : decode cM_instantiate 135 = .ok (.istore 6, 2) := by decide +kernel
theorem dM_instantiate_137 : decode cM_instantiate 137 = .ok (.aload_n 0, 1) := by decide +kernel
theorem dM_instantiate_138 : decode cM_instantiate 138 = .ok (.getfield 13, 3) := by decide +kernel
theorem dM_instantiate_141 : decode cM_instantiate 141 = .ok (.iload 6, 2) := by decide +kernel
theorem dM_instantiate_143 : decode cM_instantiate 143 = .ok (.iconst 1, 1) := by decide +kernel
theorem dM_instantiate_144 : decode cM_instantiate 144 = .ok (.bastore, 1) := by decide +kernel
theorem dM_instantiate_145 : decode cM_instantiate 145 = .ok (.aload_n 0, 1) := by decide +kernel
theorem dM_instantiate_146 : decode cM_instantiate 146 = .ok (.getfield 17, 3) := by decide +kernel
theorem dM_instantiate_149 : decode cM_instantiate 149 = .ok (.iload 6, 2) := by decide +kernel
theorem dM_instantiate_151 : decode cM_instantiate 151 = .ok (.iload 5, 2) := by decide +kernel
theorem dM_instantiate_153 : decode cM_instantiate 153 = .ok (.iastore, 1) := by decide +kernel
theorem dM_instantiate_154 : decode cM_instantiate 154 = .ok (.aload_n 0, 1) := by decide +kernel
theorem dM_instantiate_155 : decode cM_instantiate 155 = .ok (.getfield 20, 3) := by decide +kernel
theorem dM_instantiate_158 : decode cM_instantiate 158 = .ok (.iload 6, 2) := by decide +kernel
theorem dM_instantiate_160 : decode cM_instantiate 160 = .ok (.iload_n 3, 1) := by decide +kernel
theorem dM_instantiate_161 : decode cM_instantiate 161 = .ok (.iastore, 1) := by decide +kernel
theorem dM_instantiate_162 : decode cM_instantiate 162 = .ok (.aload_n 0, 1) := by decide +kernel
theorem dM_instantiate_163 : decode cM_instantiate 163 = .ok (.getfield 23, 3) := by decide +kernel
theorem dM_instantiate_166 : decode cM_instantiate 166 = .ok (.iload 6, 2) := by decide +kernel
theorem dM_instantiate_168 : decode cM_instantiate 168 = .ok (.iconst 0, 1) := by decide +kernel
theorem dM_instantiate_169 : decode cM_instantiate 169 = .ok (.iastore, 1) := by decide +kernel
theorem dM_instantiate_170 : decode cM_instantiate 170 = .ok (.aload_n 0, 1) := by decide +kernel
theorem dM_instantiate_171 : decode cM_instantiate 171 = .ok (.getfield 26, 3) := by decide +kernel
theorem dM_instantiate_174 : decode cM_instantiate 174 = .ok (.iload 5, 2) := by decide +kernel
theorem dM_instantiate_176 : decode cM_instantiate 176 = .ok (.iconst 1, 1) := by decide +kernel
theorem dM_instantiate_177 : decode cM_instantiate 177 = .ok (.iadd, 1) := by decide +kernel
theorem dM_instantiate_178 : decode cM_instantiate 178 = .ok (.iload_n 2, 1) := by decide +kernel
theorem dM_instantiate_179 : decode cM_instantiate 179 = .ok (.iastore, 1) := by decide +kernel
theorem dM_instantiate_180 : decode cM_instantiate 180 = .ok (.iconst 0, 1) := by decide +kernel
theorem dM_instantiate_181 : decode cM_instantiate 181 = .ok (.istore 7, 2) := by decide +kernel
theorem dM_instantiate_183 : decode cM_instantiate 183 = .ok (.iload 7, 2) := by decide +kernel
theorem dM_instantiate_185 : decode cM_instantiate 185 = .ok (.iload_n 3, 1) := by decide +kernel
theorem dM_instantiate_186 : decode cM_instantiate 186 = .ok (.if_icmp .ge 22, 3) := by decide +kernel
theorem dM_instantiate_189 : decode cM_instantiate 189 = .ok (.aload_n 0, 1) := by decide +kernel
theorem dM_instantiate_190 : decode cM_instantiate 190 = .ok (.getfield 26, 3) := by decide +kernel
theorem dM_instantiate_193 : decode cM_instantiate 193 = .ok (.iload 5, 2) := by decide +kernel
theorem dM_instantiate_195 : decode cM_instantiate 195 = .ok (.iconst 2, 1) := by decide +kernel
theorem dM_instantiate_196 : decode cM_instantiate 196 = .ok (.iadd, 1) := by decide +kernel
theorem dM_instantiate_197 : decode cM_instantiate 197 = .ok (.iload 7, 2) := by decide +kernel
theorem dM_instantiate_199 : decode cM_instantiate 199 = .ok (.iadd, 1) := by decide +kernel
theorem dM_instantiate_200 : decode cM_instantiate 200 = .ok (.iconst 0, 1) := by decide +kernel
theorem dM_instantiate_201 : decode cM_instantiate 201 = .ok (.iastore, 1) := by decide +kernel
theorem dM_instantiate_202 : decode cM_instantiate 202 = .ok (.iinc 7 1, 3) := by decide +kernel
theorem dM_instantiate_205 : decode cM_instantiate 205 = .ok (.goto (-22), 3) := by decide +kernel
theorem dM_instantiate_208 : decode cM_instantiate 208 = .ok (.aload_n 0, 1) := by decide +kernel
theorem dM_instantiate_209 : decode cM_instantiate 209 = .ok (.iload_n 2, 1) := by decide +kernel
theorem dM_instantiate_210 : decode cM_instantiate 210 = .ok (.invokevirtual 95, 3) := by decide +kernel
theorem dM_instantiate_213 : decode cM_instantiate 213 = .ok (.aload_n 0, 1) := by decide +kernel
theorem dM_instantiate_214 : decode cM_instantiate 214 = .ok (.getfield 7, 3) := by decide +kernel
theorem dM_instantiate_217 : decode cM_instantiate 217 = .ok (.iload_n 1, 1) := by decide +kernel
theorem dM_instantiate_218 : decode cM_instantiate 218 = .ok (.iaload, 1) := by decide +kernel
theorem dM_instantiate_219 : decode cM_instantiate 219 = .ok (.istore 7, 2) := by decide +kernel
theorem dM_instantiate_221 : decode cM_instantiate 221 = .ok (.aload_n 0, 1) := by decide +kernel
theorem dM_instantiate_222 : decode cM_instantiate 222 = .ok (.getfield 7, 3) := by decide +kernel
theorem dM_instantiate_225 : decode cM_instantiate 225 = .ok (.iload_n 1, 1) := by decide +kernel
theorem dM_instantiate_226 : decode cM_instantiate 226 = .ok (.iconst 2, 1) := by decide +kernel
theorem dM_instantiate_227 : decode cM_instantiate 227 = .ok (.iload 6, 2) := by decide +kernel
theorem dM_instantiate_229 : decode cM_instantiate 229 = .ok (.imul, 1) := by decide +kernel
theorem dM_instantiate_230 : decode cM_instantiate 230 = .ok (.iastore, 1) := by decide +kernel
theorem dM_instantiate_231 : decode cM_instantiate 231 = .ok (.aload_n 0, 1) := by decide +kernel
theorem dM_instantiate_232 : decode cM_instantiate 232 = .ok (.iload 7, 2) := by decide +kernel
theorem dM_instantiate_234 : decode cM_instantiate 234 = .ok (.iconst 2, 1) := by decide +kernel
theorem dM_instantiate_235 : decode cM_instantiate 235 = .ok (.iload 6, 2) := by decide +kernel
theorem dM_instantiate_237 : decode cM_instantiate 237 = .ok (.imul, 1) := by decide +kernel
theorem dM_instantiate_238 : decode cM_instantiate 238 = .ok (.invokevirtual 122, 3) := by decide +kernel
theorem dM_instantiate_241 : decode cM_instantiate 241 = .ok (.istore 7, 2) := by decide +kernel
theorem dM_instantiate_243 : decode cM_instantiate 243 = .ok (.iconst 2, 1) := by decide +kernel
theorem dM_instantiate_244 : decode cM_instantiate 244 = .ok (.iload 6, 2) := by decide +kernel
theorem dM_instantiate_246 : decode cM_instantiate 246 = .ok (.imul, 1) := by decide +kernel
theorem dM_instantiate_247 : decode cM_instantiate 247 = .ok (.ireturn, 1) := by decide +kernel
theorem dM_set_0 : decode cM_set 0 = .ok (.aload_n 0, 1) := by decide +kernel
theorem dM_set_1 : decode cM_set 1 = .ok (.iload_n 1, 1) := by decide +kernel
theorem dM_set_2 : decode cM_set 2 = .ok (.invokestatic 107, 3) := by decide +kernel
theorem dM_set_5 : decode cM_set 5 = .ok (.ifCond .ne 7, 3) := by decide +kernel
theorem dM_set_8 : decode cM_set 8 = .ok (.iconst 1, 1) := by decide +kernel
theorem dM_set_9 : decode cM_set 9 = .ok (.goto 16, 3) := by decide +kernel
theorem dM_set_12 : decode cM_set 12 = .ok (.aload_n 0, 1) := by decide +kernel
theorem dM_set_13 : decode cM_set 13 = .ok (.iload_n 2, 1) := by decide +kernel
theorem dM_set_14 : decode cM_set 14 = .ok (.invokevirtual 110, 3) := by decide +kernel
theorem dM_set_17 : decode cM_set 17 = .ok (.ifCond .ne 7, 3) := by decide +kernel
theorem dM_set_20 : decode cM_set 20 = .ok (.iconst 2, 1) := by decide +kernel
theorem dM_set_21 : decode cM_set 21 = .ok (.goto 4, 3) := by decide +kernel
theorem dM_set_24 : decode cM_set 24 = .ok (.iconst 0, 1) := by decide +kernel
theorem dM_set_25 : decode cM_set 25 = .ok (.putfield 58, 3) := by decide +kernel
theorem dM_set_28 : decode cM_set 28 = .ok (.aload_n 0, 1) := by decide +kernel
theorem dM_set_29 : decode cM_set 29 = .ok (.getfield 58, 3) := by decide +kernel
theorem dM_set_32 : decode cM_set 32 = .ok (.ifCond .eq 5, 3) := by decide +kernel
theorem dM_set_35 : decode cM_set 35 = .ok (.iconst 0, 1) := by decide +kernel
theorem dM_set_36 : decode cM_set 36 = .ok (.ireturn, 1) := by decide +kernel
theorem dM_set_37 : decode cM_set 37 = .ok (.aload_n 0, 1) := by decide +kernel
theorem dM_set_38 : decode cM_set 38 = .ok (.getfield 7, 3) := by decide +kernel
theorem dM_set_41 : decode cM_set 41 = .ok (.iload_n 1, 1) := by decide +kernel
theorem dM_set_42 : decode cM_set 42 = .ok (.iaload, 1) := by decide +kernel
theorem dM_set_43 : decode cM_set 43 = .ok (.istore_n 3, 1) := by decide +kernel
theorem dM_set_44 : decode cM_set 44 = .ok (.aload_n 0, 1) := by decide +kernel
theorem dM_set_45 : decode cM_set 45 = .ok (.getfield 7, 3) := by decide +kernel
theorem dM_set_48 : decode cM_set 48 = .ok (.iload_n 1, 1) := by decide +kernel
theorem dM_set_49 : decode cM_set 49 = .ok (.iload_n 2, 1) := by decide +kernel
theorem dM_set_50 : decode cM_set 50 = .ok (.iastore, 1) := by decide +kernel
theorem dM_set_51 : decode cM_set 51 = .ok (.aload_n 0, 1) := by decide +kernel
theorem dM_set_52 : decode cM_set 52 = .ok (.iload_n 3, 1) := by decide +kernel
theorem dM_set_53 : decode cM_set 53 = .ok (.iload_n 2, 1) := by decide +kernel
theorem dM_set_54 : decode cM_set 54 = .ok (.invokevirtual 122, 3) := by decide +kernel
theorem dM_set_57 : decode cM_set 57 = .ok (.ireturn, 1) := by decide +kernel
theorem dM_register_0 : decode cM_register 0 = .ok (.aload_n 0, 1) := by decide +kernel
theorem dM_register_1 : decode cM_register 1 = .ok (.iload_n 1, 1) := by decide +kernel
theorem dM_register_2 : decode cM_register 2 = .ok (.invokestatic 107, 3) := by decide +kernel
theorem dM_register_5 : decode cM_register 5 = .ok (.ifCond .eq 7, 3) := by decide +kernel
theorem dM_register_8 : decode cM_register 8 = .ok (.iconst 0, 1) := by decide +kernel
theorem dM_register_9 : decode cM_register 9 = .ok (.goto 4, 3) := by decide +kernel
theorem dM_register_12 : decode cM_register 12 = .ok (.iconst 1, 1) := by decide +kernel
theorem dM_register_13 : decode cM_register 13 = .ok (.putfield 58, 3) := by decide +kernel
theorem dM_register_16 : decode cM_register 16 = .ok (.aload_n 0, 1) := by decide +kernel
theorem dM_register_17 : decode cM_register 17 = .ok (.getfield 58, 3) := by decide +kernel
theorem dM_register_20 : decode cM_register 20 = .ok (.ifCond .ne 12, 3) := by decide +kernel
theorem dM_register_23 : decode cM_register 23 = .ok (.aload_n 0, 1) := by decide +kernel
theorem dM_register_24 : decode cM_register 24 = .ok (.getfield 7, 3) := by decide +kernel
theorem dM_register_27 : decode cM_register 27 = .ok (.iload_n 1, 1) := by decide +kernel
theorem dM_register_28 : decode cM_register 28 = .ok (.iaload, 1) := by decide +kernel
theorem dM_register_29 : decode cM_register 29 = .ok (.goto 4, 3) := by decide +kernel
theorem dM_register_32 : decode cM_register 32 = .ok (.iconst 0, 1) := by decide +kernel
theorem dM_register_33 : decode cM_register 33 = .ok (.ireturn, 1) := by decide +kernel
theorem dM_hasField_0 : decode cM_hasField 0 = .ok (.iload_n 2, 1) := by decide +kernel
theorem dM_hasField_1 : decode cM_hasField 1 = .ok (.ifCond .lt 19, 3) := by decide +kernel
theorem dM_hasField_4 : decode cM_hasField 4 = .ok (.iload_n 2, 1) := by decide +kernel
theorem dM_hasField_5 : decode cM_hasField 5 = .ok (.aload_n 0, 1) := by decide +kernel
theorem dM_hasField_6 : decode cM_hasField 6 = .ok (.getfield 20, 3) := by decide +kernel
theorem dM_hasField_9 : decode cM_hasField 9 = .ok (.iload_n 1, 1) := by decide +kernel
theorem dM_hasField_10 : decode cM_hasField 10 = .ok (.iconst 2, 1) := by decide +kernel
theorem dM_hasField_11 : decode cM_hasField 11 = .ok (.idiv, 1) := by decide +kernel
theorem dM_hasField_12 : decode cM_hasField 12 = .ok (.iaload, 1) := by decide +kernel
theorem dM_hasField_13 : decode cM_hasField 13 = .ok (.if_icmp .ge 7, 3) := by decide +kernel
theorem dM_hasField_16 : decode cM_hasField 16 = .ok (.iconst 1, 1) := by decide +kernel
theorem dM_hasField_17 : decode cM_hasField 17 = .ok (.goto 4, 3) := by decide +kernel
theorem dM_hasField_20 : decode cM_hasField 20 = .ok (.iconst 0, 1) := by decide +kernel
theorem dM_hasField_21 : decode cM_hasField 21 = .ok (.ireturn, 1) := by decide +kernel
theorem dM_fetch_0 : decode cM_fetch 0 = .ok (.aload_n 0, 1) := by decide +kernel
theorem dM_fetch_1 : decode cM_fetch 1 = .ok (.aload_n 0, 1) := by decide +kernel
theorem dM_fetch_2 : decode cM_fetch 2 = .ok (.iload_n 1, 1) := by decide +kernel
theorem dM_fetch_3 : decode cM_fetch 3 = .ok (.invokevirtual 65, 3) := by decide +kernel
theorem dM_fetch_6 : decode cM_fetch 6 = .ok (.ifCond .ne 7, 3) := by decide +kernel
theorem dM_fetch_9 : decode cM_fetch 9 = .ok (.iconst 1, 1) := by decide +kernel
theorem dM_fetch_10 : decode cM_fetch 10 = .ok (.goto 17, 3) := by decide +kernel
theorem dM_fetch_13 : decode cM_fetch 13 = .ok (.aload_n 0, 1) := by decide +kernel
theorem dM_fetch_14 : decode cM_fetch 14 = .ok (.iload_n 1, 1) := by decide +kernel
theorem dM_fetch_15 : decode cM_fetch 15 = .ok (.iload_n 2, 1) := by decide +kernel
theorem dM_fetch_16 : decode cM_fetch 16 = .ok (.invokevirtual 126, 3) := by decide +kernel
theorem dM_fetch_19 : decode cM_fetch 19 = .ok (.ifCond .ne 7, 3) := by decide +kernel
theorem dM_fetch_22 : decode cM_fetch 22 = .ok (.iconst 2, 1) := by decide +kernel
theorem dM_fetch_23 : decode cM_fetch 23 = .ok (.goto 4, 3) := by decide +kernel
theorem dM_fetch_26 : decode cM_fetch 26 = .ok (.iconst 0, 1) := by decide +kernel
theorem dM_fetch_27 : decode cM_fetch 27 = .ok (.putfield 58, 3) := by decide +kernel
theorem dM_fetch_30 : decode cM_fetch 30 = .ok (.aload_n 0, 1) := by decide +kernel
theorem dM_fetch_31 : decode cM_fetch 31 = .ok (.getfield 58, 3) := by decide +kernel
theorem dM_fetch_34 : decode cM_fetch 34 = .ok (.ifCond .ne 23, 3) := by decide +kernel
theorem dM_fetch_37 : decode cM_fetch 37 = .ok (.aload_n 0, 1) := by decide +kernel
theorem dM_fetch_38 : decode cM_fetch 38 = .ok (.getfield 26, 3) := by decide +kernel
theorem dM_fetch_41 : decode cM_fetch 41 = .ok (.aload_n 0, 1) := by decide +kernel
theorem dM_fetch_42 : decode cM_fetch 42 = .ok (.getfield 17, 3) := by decide +kernel
theorem dM_fetch_45 : decode cM_fetch 45 = .ok (.iload_n 1, 1) := by decide +kernel
theorem dM_fetch_46 : decode cM_fetch 46 = .ok (.iconst 2, 1) := by decide +kernel
theorem dM_fetch_47 : decode cM_fetch 47 = .ok (.idiv, 1) := by decide +kernel
theorem dM_fetch_48 : decode cM_fetch 48 = .ok (.iaload, 1) := by decide +kernel
theorem dM_fetch_49 : decode cM_fetch 49 = .ok (.iconst 2, 1) := by decide +kernel
theorem dM_fetch_50 : decode cM_fetch 50 = .ok (.iadd, 1) := by decide +kernel
theorem dM_fetch_51 : decode cM_fetch 51 = .ok (.iload_n 2, 1) := by decide +kernel
theorem dM_fetch_52 : decode cM_fetch 52 = .ok (.iadd, 1) := by decide +kernel
theorem dM_fetch_53 : decode cM_fetch 53 = .ok (.iaload, 1) := by decide +kernel
theorem dM_fetch_54 : decode cM_fetch 54 = .ok (.goto 4, 3) := by decide +kernel
theorem dM_fetch_57 : decode cM_fetch 57 = .ok (.iconst 0, 1) := by decide +kernel
theorem dM_fetch_58 : decode cM_fetch 58 = .ok (.ireturn, 1) := by decide +kernel
theorem dM_store_0 : decode cM_store 0 = .ok (.aload_n 0, 1) := by decide +kernel
theorem dM_store_1 : decode cM_store 1 = .ok (.aload_n 0, 1) := by decide +kernel
theorem dM_store_2 : decode cM_store 2 = .ok (.iload_n 1, 1) := by decide +kernel
theorem dM_store_3 : decode cM_store 3 = .ok (.invokevirtual 65, 3) := by decide +kernel
theorem dM_store_6 : decode cM_store 6 = .ok (.ifCond .ne 7, 3) := by decide +kernel
theorem dM_store_9 : decode cM_store 9 = .ok (.iconst 1, 1) := by decide +kernel
theorem dM_store_10 : decode cM_store 10 = .ok (.goto 29, 3) := by decide +kernel
theorem dM_store_13 : decode cM_store 13 = .ok (.aload_n 0, 1) := by decide +kernel
theorem dM_store_14 : decode cM_store 14 = .ok (.iload_n 1, 1) := by decide +kernel
theorem dM_store_15 : decode cM_store 15 = .ok (.iload_n 2, 1) := by decide +kernel
theorem dM_store_16 : decode cM_store 16 = .ok (.invokevirtual 126, 3) := by decide +kernel
theorem dM_store_19 : decode cM_store 19 = .ok (.ifCond .ne 7, 3) := by decide +kernel
theorem dM_store_22 : decode cM_store 22 = .ok (.iconst 2, 1) := by decide +kernel
theorem dM_store_23 : decode cM_store 23 = .ok (.goto 16, 3) := by decide +kernel
theorem dM_store_26 : decode cM_store 26 = .ok (.aload_n 0, 1) := by decide +kernel
theorem dM_store_27 : decode cM_store 27 = .ok (.iload_n 3, 1) := by decide +kernel
theorem dM_store_28 : decode cM_store 28 = .ok (.invokevirtual 110, 3) := by decide +kernel
theorem dM_store_31 : decode cM_store 31 = .ok (.ifCond .ne 7, 3) := by decide +kernel
theorem dM_store_34 : decode cM_store 34 = .ok (.iconst 1, 1) := by decide +kernel
theorem dM_store_35 : decode cM_store 35 = .ok (.goto 4, 3) := by decide +kernel
theorem dM_store_38 : decode cM_store 38 = .ok (.iconst 0, 1) := by decide +kernel
theorem dM_store_39 : decode cM_store 39 = .ok (.putfield 58, 3) := by decide +kernel
theorem dM_store_42 : decode cM_store 42 = .ok (.aload_n 0, 1) := by decide +kernel
theorem dM_store_43 : decode cM_store 43 = .ok (.getfield 58, 3) := by decide +kernel
theorem dM_store_46 : decode cM_store 46 = .ok (.ifCond .eq 5, 3) := by decide +kernel
theorem dM_store_49 : decode cM_store 49 = .ok (.iconst 0, 1) := by decide +kernel
theorem dM_store_50 : decode cM_store 50 = .ok (.ireturn, 1) := by decide +kernel
theorem dM_store_51 : decode cM_store 51 = .ok (.aload_n 0, 1) := by decide +kernel
theorem dM_store_52 : decode cM_store 52 = .ok (.getfield 17, 3) := by decide +kernel
theorem dM_store_55 : decode cM_store 55 = .ok (.iload_n 1, 1) := by decide +kernel
theorem dM_store_56 : decode cM_store 56 = .ok (.iconst 2, 1) := by decide +kernel
theorem dM_store_57 : decode cM_store 57 = .ok (.idiv, 1) := by decide +kernel
theorem dM_store_58 : decode cM_store 58 = .ok (.iaload, 1) := by decide +kernel
theorem dM_store_59 : decode cM_store 59 = .ok (.iconst 2, 1) := by decide +kernel
theorem dM_store_60 : decode cM_store 60 = .ok (.iadd, 1) := by decide +kernel
theorem dM_store_61 : decode cM_store 61 = .ok (.iload_n 2, 1) := by decide +kernel
theorem dM_store_62 : decode cM_store 62 = .ok (.iadd, 1) := by decide +kernel
theorem dM_store_63 : decode cM_store 63 = .ok (.istore 4, 2) := by decide +kernel
theorem dM_store_65 : decode cM_store 65 = .ok (.aload_n 0, 1) := by decide +kernel
theorem dM_store_66 : decode cM_store 66 = .ok (.getfield 26, 3) := by decide +kernel
theorem dM_store_69 : decode cM_store 69 = .ok (.iload 4, 2) := by decide +kernel
theorem dM_store_71 : decode cM_store 71 = .ok (.iaload, 1) := by decide +kernel
theorem dM_store_72 : decode cM_store 72 = .ok (.istore 5, 2) := by decide +kernel
theorem dM_store_74 : decode cM_store 74 = .ok (.aload_n 0, 1) := by decide +kernel
theorem dM_store_75 : decode cM_store 75 = .ok (.getfield 26, 3) := by decide +kernel
theorem dM_store_78 : decode cM_store 78 = .ok (.iload 4, 2) := by decide +kernel
theorem dM_store_80 : decode cM_store 80 = .ok (.iload_n 3, 1) := by decide +kernel
theorem dM_store_81 : decode cM_store 81 = .ok (.iastore, 1) := by decide +kernel
theorem dM_store_82 : decode cM_store 82 = .ok (.aload_n 0, 1) := by decide +kernel
theorem dM_store_83 : decode cM_store 83 = .ok (.iload 5, 2) := by decide +kernel
theorem dM_store_85 : decode cM_store 85 = .ok (.iload_n 3, 1) := by decide +kernel
theorem dM_store_86 : decode cM_store 86 = .ok (.invokevirtual 122, 3) := by decide +kernel
theorem dM_store_89 : decode cM_store 89 = .ok (.ireturn, 1) := by decide +kernel
theorem dM_type_0 : decode cM_type 0 = .ok (.aload_n 0, 1) := by decide +kernel
theorem dM_type_1 : decode cM_type 1 = .ok (.aload_n 0, 1) := by decide +kernel
theorem dM_type_2 : decode cM_type 2 = .ok (.iload_n 1, 1) := by decide +kernel
theorem dM_type_3 : decode cM_type 3 = .ok (.invokevirtual 65, 3) := by decide +kernel
theorem dM_type_6 : decode cM_type 6 = .ok (.ifCond .eq 7, 3) := by decide +kernel
theorem dM_type_9 : decode cM_type 9 = .ok (.iconst 0, 1) := by decide +kernel
theorem dM_type_10 : decode cM_type 10 = .ok (.goto 4, 3) := by decide +kernel
theorem dM_type_13 : decode cM_type 13 = .ok (.iconst 1, 1) := by decide +kernel
theorem dM_type_14 : decode cM_type 14 = .ok (.putfield 58, 3) := by decide +kernel
theorem dM_type_17 : decode cM_type 17 = .ok (.aload_n 0, 1) := by decide +kernel
theorem dM_type_18 : decode cM_type 18 = .ok (.getfield 58, 3) := by decide +kernel
theorem dM_type_21 : decode cM_type 21 = .ok (.ifCond .ne 21, 3) := by decide +kernel
theorem dM_type_24 : decode cM_type 24 = .ok (.aload_n 0, 1) := by decide +kernel
theorem dM_type_25 : decode cM_type 25 = .ok (.getfield 26, 3) := by decide +kernel
theorem dM_type_28 : decode cM_type 28 = .ok (.aload_n 0, 1) := by decide +kernel
theorem dM_type_29 : decode cM_type 29 = .ok (.getfield 17, 3) := by decide +kernel
theorem dM_type_32 : decode cM_type 32 = .ok (.iload_n 1, 1) := by decide +kernel
theorem dM_type_33 : decode cM_type 33 = .ok (.iconst 2, 1) := by decide +kernel
theorem dM_type_34 : decode cM_type 34 = .ok (.idiv, 1) := by decide +kernel
theorem dM_type_35 : decode cM_type 35 = .ok (.iaload, 1) := by decide +kernel
theorem dM_type_36 : decode cM_type 36 = .ok (.iconst 1, 1) := by decide +kernel
theorem dM_type_37 : decode cM_type 37 = .ok (.iadd, 1) := by decide +kernel
theorem dM_type_38 : decode cM_type 38 = .ok (.iaload, 1) := by decide +kernel
theorem dM_type_39 : decode cM_type 39 = .ok (.goto 4, 3) := by decide +kernel
theorem dM_type_42 : decode cM_type 42 = .ok (.iconst 0, 1) := by decide +kernel
theorem dM_type_43 : decode cM_type 43 = .ok (.ireturn, 1) := by decide +kernel
theorem dM_fields_0 : decode cM_fields 0 = .ok (.aload_n 0, 1) := by decide +kernel
theorem dM_fields_1 : decode cM_fields 1 = .ok (.aload_n 0, 1) := by decide +kernel
theorem dM_fields_2 : decode cM_fields 2 = .ok (.iload_n 1, 1) := by decide +kernel
theorem dM_fields_3 : decode cM_fields 3 = .ok (.invokevirtual 65, 3) := by decide +kernel
theorem dM_fields_6 : decode cM_fields 6 = .ok (.ifCond .eq 7, 3) := by decide +kernel
theorem dM_fields_9 : decode cM_fields 9 = .ok (.iconst 0, 1) := by decide +kernel
theorem dM_fields_10 : decode cM_fields 10 = .ok (.goto 4, 3) := by decide +kernel
theorem dM_fields_13 : decode cM_fields 13 = .ok (.iconst 1, 1) := by decide +kernel
theorem dM_fields_14 : decode cM_fields 14 = .ok (.putfield 58, 3) := by decide +kernel
theorem dM_fields_17 : decode cM_fields 17 = .ok (.aload_n 0, 1) := by decide +kernel
theorem dM_fields_18 : decode cM_fields 18 = .ok (.getfield 58, 3) := by decide +kernel
theorem dM_fields_21 : decode cM_fields 21 = .ok (.ifCond .ne 14, 3) := by decide +kernel
theorem dM_fields_24 : decode cM_fields 24 = .ok (.aload_n 0, 1) := by decide +kernel
theorem dM_fields_25 : decode cM_fields 25 = .ok (.getfield 20, 3) := by decide +kernel
theorem dM_fields_28 : decode cM_fields 28 = .ok (.iload_n 1, 1) := by decide +kernel
theorem dM_fields_29 : decode cM_fields 29 = .ok (.iconst 2, 1) := by decide +kernel
theorem dM_fields_30 : decode cM_fields 30 = .ok (.idiv, 1) := by decide +kernel
theorem dM_fields_31 : decode cM_fields 31 = .ok (.iaload, 1) := by decide +kernel
theorem dM_fields_32 : decode cM_fields 32 = .ok (.goto 4, 3) := by decide +kernel
theorem dM_fields_35 : decode cM_fields 35 = .ok (.iconst 0, 1) := by decide +kernel
theorem dM_fields_36 : decode cM_fields 36 = .ok (.ireturn, 1) := by decide +kernel
theorem dM_become_0 : decode cM_become 0 = .ok (.aload_n 0, 1) := by decide +kernel
theorem dM_become_1 : decode cM_become 1 = .ok (.aload_n 0, 1) := by decide +kernel
theorem dM_become_2 : decode cM_become 2 = .ok (.iload_n 1, 1) := by decide +kernel
theorem dM_become_3 : decode cM_become 3 = .ok (.invokevirtual 65, 3) := by decide +kernel
theorem dM_become_6 : decode cM_become 6 = .ok (.ifCond .eq 15, 3) := by decide +kernel
theorem dM_become_9 : decode cM_become 9 = .ok (.aload_n 0, 1) := by decide +kernel
theorem dM_become_10 : decode cM_become 10 = .ok (.iload_n 2, 1) := by decide +kernel
theorem dM_become_11 : decode cM_become 11 = .ok (.invokevirtual 65, 3) := by decide +kernel
theorem dM_become_14 : decode cM_become 14 = .ok (.ifCond .eq 7, 3) := by decide +kernel
theorem dM_become_17 : decode cM_become 17 = .ok (.iconst 0, 1) := by decide +kernel
theorem dM_become_18 : decode cM_become 18 = .ok (.goto 4, 3) := by decide +kernel
theorem dM_become_21 : decode cM_become 21 = .ok (.iconst 1, 1) := by decide +kernel
theorem dM_become_22 : decode cM_become 22 = .ok (.putfield 58, 3) := by decide +kernel
theorem dM_become_25 : decode cM_become 25 = .ok (.aload_n 0, 1) := by decide +kernel
theorem dM_become_26 : decode cM_become 26 = .ok (.getfield 58, 3) := by decide +kernel
theorem dM_become_29 : decode cM_become 29 = .ok (.ifCond .ne 73, 3) := by decide +kernel
theorem dM_become_32 : decode cM_become 32 = .ok (.aload_n 0, 1) := by decide +kernel
theorem dM_become_33 : decode cM_become 33 = .ok (.getfield 17, 3) := by decide +kernel
theorem dM_become_36 : decode cM_become 36 = .ok (.iload_n 1, 1) := by decide +kernel
theorem dM_become_37 : decode cM_become 37 = .ok (.iconst 2, 1) := by decide +kernel
theorem dM_become_38 : decode cM_become 38 = .ok (.idiv, 1) := by decide +kernel
theorem dM_become_39 : decode cM_become 39 = .ok (.iaload, 1) := by decide +kernel
theorem dM_become_40 : decode cM_become 40 = .ok (.istore_n 3, 1) := by decide +kernel
theorem dM_become_41 : decode cM_become 41 = .ok (.aload_n 0, 1) := by decide +kernel
theorem dM_become_42 : decode cM_become 42 = .ok (.getfield 20, 3) := by decide +kernel
theorem dM_become_45 : decode cM_become 45 = .ok (.iload_n 1, 1) := by decide +kernel
theorem dM_become_46 : decode cM_become 46 = .ok (.iconst 2, 1) := by decide +kernel
theorem dM_become_47 : decode cM_become 47 = .ok (.idiv, 1) := by decide +kernel
theorem dM_become_48 : decode cM_become 48 = .ok (.iaload, 1) := by decide +kernel
theorem dM_become_49 : decode cM_become 49 = .ok (.istore 4, 2) := by decide +kernel
theorem dM_become_51 : decode cM_become 51 = .ok (.aload_n 0, 1) := by decide +kernel
theorem dM_become_52 : decode cM_become 52 = .ok (.getfield 17, 3) := by decide +kernel
theorem dM_become_55 : decode cM_become 55 = .ok (.iload_n 1, 1) := by decide +kernel
theorem dM_become_56 : decode cM_become 56 = .ok (.iconst 2, 1) := by decide +kernel
theorem dM_become_57 : decode cM_become 57 = .ok (.idiv, 1) := by decide +kernel
theorem dM_become_58 : decode cM_become 58 = .ok (.aload_n 0, 1) := by decide +kernel
theorem dM_become_59 : decode cM_become 59 = .ok (.getfield 17, 3) := by decide +kernel
theorem dM_become_62 : decode cM_become 62 = .ok (.iload_n 2, 1) := by decide +kernel
theorem dM_become_63 : decode cM_become 63 = .ok (.iconst 2, 1) := by decide +kernel
theorem dM_become_64 : decode cM_become 64 = .ok (.idiv, 1) := by decide +kernel
theorem dM_become_65 : decode cM_become 65 = .ok (.iaload, 1) := by decide +kernel
theorem dM_become_66 : decode cM_become 66 = .ok (.iastore, 1) := by decide +kernel
theorem dM_become_67 : decode cM_become 67 = .ok (.aload_n 0, 1) := by decide +kernel
theorem dM_become_68 : decode cM_become 68 = .ok (.getfield 20, 3) := by decide +kernel
theorem dM_become_71 : decode cM_become 71 = .ok (.iload_n 1, 1) := by decide +kernel
theorem dM_become_72 : decode cM_become 72 = .ok (.iconst 2, 1) := by decide +kernel
theorem dM_become_73 : decode cM_become 73 = .ok (.idiv, 1) := by decide +kernel
theorem dM_become_74 : decode cM_become 74 = .ok (.aload_n 0, 1) := by decide +kernel
theorem dM_become_75 : decode cM_become 75 = .ok (.getfield 20, 3) := by decide +kernel
theorem dM_become_78 : decode cM_become 78 = .ok (.iload_n 2, 1) := by decide +kernel
theorem dM_become_79 : decode cM_become 79 = .ok (.iconst 2, 1) := by decide +kernel
theorem dM_become_80 : decode cM_become 80 = .ok (.idiv, 1) := by decide +kernel
theorem dM_become_81 : decode cM_become 81 = .ok (.iaload, 1) := by decide +kernel
theorem dM_become_82 : decode cM_become 82 = .ok (.iastore, 1) := by decide +kernel
theorem dM_become_83 : decode cM_become 83 = .ok (.aload_n 0, 1) := by decide +kernel
theorem dM_become_84 : decode cM_become 84 = .ok (.getfield 17, 3) := by decide +kernel
theorem dM_become_87 : decode cM_become 87 = .ok (.iload_n 2, 1) := by decide +kernel
theorem dM_become_88 : decode cM_become 88 = .ok (.iconst 2, 1) := by decide +kernel
theorem dM_become_89 : decode cM_become 89 = .ok (.idiv, 1) := by decide +kernel
theorem dM_become_90 : decode cM_become 90 = .ok (.iload_n 3, 1) := by decide +kernel
theorem dM_become_91 : decode cM_become 91 = .ok (.iastore, 1) := by decide +kernel
theorem dM_become_92 : decode cM_become 92 = .ok (.aload_n 0, 1) := by decide +kernel
theorem dM_become_93 : decode cM_become 93 = .ok (.getfield 20, 3) := by decide +kernel
theorem dM_become_96 : decode cM_become 96 = .ok (.iload_n 2, 1) := by decide +kernel
theorem dM_become_97 : decode cM_become 97 = .ok (.iconst 2, 1) := by decide +kernel
theorem dM_become_98 : decode cM_become 98 = .ok (.idiv, 1) := by decide +kernel
theorem dM_become_99 : decode cM_become 99 = .ok (.iload 4, 2) := by decide +kernel
theorem dM_become_101 : decode cM_become 101 = .ok (.iastore, 1) := by decide +kernel
theorem dM_become_102 : decode cM_become 102 = .ok (.return_, 1) := by decide +kernel
theorem dM_collect_0 : decode cM_collect 0 = .ok (.aload_n 0, 1) := by decide +kernel
theorem dM_collect_1 : decode cM_collect 1 = .ok (.iconst 0, 1) := by decide +kernel
theorem dM_collect_2 : decode cM_collect 2 = .ok (.putfield 58, 3) := by decide +kernel
theorem dM_collect_5 : decode cM_collect 5 = .ok (.aload_n 0, 1) := by decide +kernel
theorem dM_collect_6 : decode cM_collect 6 = .ok (.iconst 0, 1) := by decide +kernel
theorem dM_collect_7 : decode cM_collect 7 = .ok (.invokevirtual 116, 3) := by decide +kernel
theorem dM_collect_10 : decode cM_collect 10 = .ok (.ireturn, 1) := by decide +kernel
theorem dM_compact_0 : decode cM_compact 0 = .ok (.aload_n 0, 1) := by decide +kernel
theorem dM_compact_1 : decode cM_compact 1 = .ok (.iconst 0, 1) := by decide +kernel
theorem dM_compact_2 : decode cM_compact 2 = .ok (.putfield 58, 3) := by decide +kernel
theorem dM_compact_5 : decode cM_compact 5 = .ok (.aload_n 0, 1) := by decide +kernel
theorem dM_compact_6 : decode cM_compact 6 = .ok (.invokevirtual 82, 3) := by decide +kernel
theorem dM_compact_9 : decode cM_compact 9 = .ok (.ireturn, 1) := by decide +kernel
theorem dM_exists_0 : decode cM_exists 0 = .ok (.aload_n 0, 1) := by decide +kernel
theorem dM_exists_1 : decode cM_exists 1 = .ok (.iconst 0, 1) := by decide +kernel
theorem dM_exists_2 : decode cM_exists 2 = .ok (.putfield 58, 3) := by decide +kernel
theorem dM_exists_5 : decode cM_exists 5 = .ok (.aload_n 0, 1) := by decide +kernel
theorem dM_exists_6 : decode cM_exists 6 = .ok (.iload_n 1, 1) := by decide +kernel
theorem dM_exists_7 : decode cM_exists 7 = .ok (.invokevirtual 65, 3) := by decide +kernel
theorem dM_exists_10 : decode cM_exists 10 = .ok (.ireturn, 1) := by decide +kernel
theorem dM_count_0 : decode cM_count 0 = .ok (.aload_n 0, 1) := by decide +kernel
theorem dM_count_1 : decode cM_count 1 = .ok (.iconst 0, 1) := by decide +kernel
theorem dM_count_2 : decode cM_count 2 = .ok (.putfield 58, 3) := by decide +kernel
theorem dM_count_5 : decode cM_count 5 = .ok (.aload_n 0, 1) := by decide +kernel
theorem dM_count_6 : decode cM_count 6 = .ok (.iload_n 1, 1) := by decide +kernel
theorem dM_count_7 : decode cM_count 7 = .ok (.invokevirtual 65, 3) := by decide +kernel
theorem dM_count_10 : decode cM_count 10 = .ok (.ifCond .eq 14, 3) := by decide +kernel
theorem dM_count_13 : decode cM_count 13 = .ok (.aload_n 0, 1) := by decide +kernel
theorem dM_count_14 : decode cM_count 14 = .ok (.getfield 23, 3) := by decide +kernel
theorem dM_count_17 : decode cM_count 17 = .ok (.iload_n 1, 1) := by decide +kernel
theorem dM_count_18 : decode cM_count 18 = .ok (.iconst 2, 1) := by decide +kernel
theorem dM_count_19 : decode cM_count 19 = .ok (.idiv, 1) := by decide +kernel
theorem dM_count_20 : decode cM_count 20 = .ok (.iaload, 1) := by decide +kernel
theorem dM_count_21 : decode cM_count 21 = .ok (.goto 4, 3) := by decide +kernel
theorem dM_count_24 : decode cM_count 24 = .ok (.iconst 0, 1) := by decide +kernel
theorem dM_count_25 : decode cM_count 25 = .ok (.ireturn, 1) := by decide +kernel
theorem dM_address_0 : decode cM_address 0 = .ok (.aload_n 0, 1) := by decide +kernel
theorem dM_address_1 : decode cM_address 1 = .ok (.iconst 0, 1) := by decide +kernel
theorem dM_address_2 : decode cM_address 2 = .ok (.putfield 58, 3) := by decide +kernel
theorem dM_address_5 : decode cM_address 5 = .ok (.aload_n 0, 1) := by decide +kernel
theorem dM_address_6 : decode cM_address 6 = .ok (.iload_n 1, 1) := by decide +kernel
theorem dM_address_7 : decode cM_address 7 = .ok (.invokevirtual 65, 3) := by decide +kernel
theorem dM_address_10 : decode cM_address 10 = .ok (.ifCond .eq 14, 3) := by decide +kernel
theorem dM_address_13 : decode cM_address 13 = .ok (.aload_n 0, 1) := by decide +kernel
theorem dM_address_14 : decode cM_address 14 = .ok (.getfield 17, 3) := by decide +kernel
theorem dM_address_17 : decode cM_address 17 = .ok (.iload_n 1, 1) := by decide +kernel
theorem dM_address_18 : decode cM_address 18 = .ok (.iconst 2, 1) := by decide +kernel
theorem dM_address_19 : decode cM_address 19 = .ok (.idiv, 1) := by decide +kernel
theorem dM_address_20 : decode cM_address 20 = .ok (.iaload, 1) := by decide +kernel
theorem dM_address_21 : decode cM_address 21 = .ok (.goto 4, 3) := by decide +kernel
theorem dM_address_24 : decode cM_address 24 = .ok (.iconst (-1), 1) := by decide +kernel
theorem dM_address_25 : decode cM_address 25 = .ok (.ireturn, 1) := by decide +kernel
theorem dM_chunks_0 : decode cM_chunks 0 = .ok (.aload_n 0, 1) := by decide +kernel
theorem dM_chunks_1 : decode cM_chunks 1 = .ok (.iconst 0, 1) := by decide +kernel
theorem dM_chunks_2 : decode cM_chunks 2 = .ok (.putfield 58, 3) := by decide +kernel
theorem dM_chunks_5 : decode cM_chunks 5 = .ok (.iconst 0, 1) := by decide +kernel
theorem dM_chunks_6 : decode cM_chunks 6 = .ok (.istore_n 2, 1) := by decide +kernel
theorem dM_chunks_7 : decode cM_chunks 7 = .ok (.iconst 0, 1) := by decide +kernel
theorem dM_chunks_8 : decode cM_chunks 8 = .ok (.istore_n 3, 1) := by decide +kernel
theorem dM_chunks_9 : decode cM_chunks 9 = .ok (.iload_n 3, 1) := by decide +kernel
theorem dM_chunks_10 : decode cM_chunks 10 = .ok (.aload_n 0, 1) := by decide +kernel
theorem dM_chunks_11 : decode cM_chunks 11 = .ok (.getfield 68, 3) := by decide +kernel
theorem dM_chunks_14 : decode cM_chunks 14 = .ok (.if_icmp .ge 31, 3) := by decide +kernel
theorem dM_chunks_17 : decode cM_chunks 17 = .ok (.iload_n 1, 1) := by decide +kernel
theorem dM_chunks_18 : decode cM_chunks 18 = .ok (.ifCond .eq 13, 3) := by decide +kernel
theorem dM_chunks_21 : decode cM_chunks 21 = .ok (.aload_n 0, 1) := by decide +kernel
theorem dM_chunks_22 : decode cM_chunks 22 = .ok (.getfield 32, 3) := by decide +kernel
theorem dM_chunks_25 : decode cM_chunks 25 = .ok (.iload_n 3, 1) := by decide +kernel
theorem dM_chunks_26 : decode cM_chunks 26 = .ok (.iaload, 1) := by decide +kernel
theorem dM_chunks_27 : decode cM_chunks 27 = .ok (.iload_n 1, 1) := by decide +kernel
theorem dM_chunks_28 : decode cM_chunks 28 = .ok (.if_icmp .ne 9, 3) := by decide +kernel
theorem dM_chunks_31 : decode cM_chunks 31 = .ok (.iload_n 2, 1) := by decide +kernel
theorem dM_chunks_32 : decode cM_chunks 32 = .ok (.iconst 1, 1) := by decide +kernel
theorem dM_chunks_33 : decode cM_chunks 33 = .ok (.iadd, 1) := by decide +kernel
theorem dM_chunks_34 : decode cM_chunks 34 = .ok (.goto 4, 3) := by decide +kernel
theorem dM_chunks_37 : decode cM_chunks 37 = .ok (.iload_n 2, 1) := by decide +kernel
theorem dM_chunks_38 : decode cM_chunks 38 = .ok (.istore_n 2, 1) := by decide +kernel
theorem dM_chunks_39 : decode cM_chunks 39 = .ok (.iinc 3 1, 3) := by decide +kernel
theorem dM_chunks_42 : decode cM_chunks 42 = .ok (.goto (-33), 3) := by decide +kernel
theorem dM_chunks_45 : decode cM_chunks 45 = .ok (.iload_n 2, 1) := by decide +kernel
theorem dM_chunks_46 : decode cM_chunks 46 = .ok (.ireturn, 1) := by decide +kernel
theorem dM_free_0 : decode cM_free 0 = .ok (.aload_n 0, 1) := by decide +kernel
theorem dM_free_1 : decode cM_free 1 = .ok (.iconst 0, 1) := by decide +kernel
theorem dM_free_2 : decode cM_free 2 = .ok (.putfield 58, 3) := by decide +kernel
theorem dM_free_5 : decode cM_free 5 = .ok (.aload_n 0, 1) := by decide +kernel
theorem dM_free_6 : decode cM_free 6 = .ok (.invokevirtual 78, 3) := by decide +kernel
theorem dM_free_9 : decode cM_free 9 = .ok (.ireturn, 1) := by decide +kernel
theorem dM_objects_0 : decode cM_objects 0 = .ok (.aload_n 0, 1) := by decide +kernel
theorem dM_objects_1 : decode cM_objects 1 = .ok (.iconst 0, 1) := by decide +kernel
theorem dM_objects_2 : decode cM_objects 2 = .ok (.putfield 58, 3) := by decide +kernel
theorem dM_objects_5 : decode cM_objects 5 = .ok (.iconst 0, 1) := by decide +kernel
theorem dM_objects_6 : decode cM_objects 6 = .ok (.istore_n 1, 1) := by decide +kernel
theorem dM_objects_7 : decode cM_objects 7 = .ok (.iconst 1, 1) := by decide +kernel
theorem dM_objects_8 : decode cM_objects 8 = .ok (.istore_n 2, 1) := by decide +kernel
theorem dM_objects_9 : decode cM_objects 9 = .ok (.iload_n 2, 1) := by decide +kernel
theorem dM_objects_10 : decode cM_objects 10 = .ok (.aload_n 0, 1) := by decide +kernel
theorem dM_objects_11 : decode cM_objects 11 = .ok (.getfield 51, 3) := by decide +kernel
theorem dM_objects_14 : decode cM_objects 14 = .ok (.if_icmp .gt 26, 3) := by decide +kernel
theorem dM_objects_17 : decode cM_objects 17 = .ok (.aload_n 0, 1) := by decide +kernel
theorem dM_objects_18 : decode cM_objects 18 = .ok (.getfield 13, 3) := by decide +kernel
theorem dM_objects_21 : decode cM_objects 21 = .ok (.iload_n 2, 1) := by decide +kernel
theorem dM_objects_22 : decode cM_objects 22 = .ok (.baload, 1) := by decide +kernel
theorem dM_objects_23 : decode cM_objects 23 = .ok (.ifCond .eq 9, 3) := by decide +kernel
theorem dM_objects_26 : decode cM_objects 26 = .ok (.iload_n 1, 1) := by decide +kernel
theorem dM_objects_27 : decode cM_objects 27 = .ok (.iconst 1, 1) := by decide +kernel
theorem dM_objects_28 : decode cM_objects 28 = .ok (.iadd, 1) := by decide +kernel
theorem dM_objects_29 : decode cM_objects 29 = .ok (.goto 4, 3) := by decide +kernel
theorem dM_objects_32 : decode cM_objects 32 = .ok (.iload_n 1, 1) := by decide +kernel
theorem dM_objects_33 : decode cM_objects 33 = .ok (.istore_n 1, 1) := by decide +kernel
theorem dM_objects_34 : decode cM_objects 34 = .ok (.iinc 2 1, 3) := by decide +kernel
theorem dM_objects_37 : decode cM_objects 37 = .ok (.goto (-28), 3) := by decide +kernel
theorem dM_objects_40 : decode cM_objects 40 = .ok (.iload_n 1, 1) := by decide +kernel
theorem dM_objects_41 : decode cM_objects 41 = .ok (.ireturn, 1) := by decide +kernel
