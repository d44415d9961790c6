theorem dJ7_fill_d0a16_0 : decode cJ7_fill_d0a16 0 = .ok (.iconst 0, 1) := by decide +kernel
theorem dJ7_fill_d0a16_1 : decode cJ7_fill_d0a16 1 = .ok (.istore_n 3, 1) := by decide +kernel
theorem dJ7_fill_d0a16_2 : decode cJ7_fill_d0a16 2 = .ok (.aload_n 0, 1) := by decide +kernel
theorem dJ7_fill_d0a16_3 : decode cJ7_fill_d0a16 3 = .ok (.arraylength, 1) := by decide +kernel
theorem dJ7_fill_d0a16_4 : decode cJ7_fill_d0a16 4 = .ok (.istore 4, 2) := by decide +kernel
theorem dJ7_fill_d0a16_6 : decode cJ7_fill_d0a16 6 = .ok (.iload_n 3, 1) := by decide +kernel
theorem dJ7_fill_d0a16_7 : decode cJ7_fill_d0a16 7 = .ok (.iload 4, 2) := by decide +kernel
theorem dJ7_fill_d0a16_9 : decode cJ7_fill_d0a16 9 = .ok (.if_icmp .ge 13, 3) := by decide +kernel
theorem dJ7_fill_d0a16_12 : decode cJ7_fill_d0a16 12 = .ok (.aload_n 0, 1) := by decide +kernel
theorem dJ7_fill_d0a16_13 : decode cJ7_fill_d0a16 13 = .ok (.iload_n 3, 1) := by decide +kernel
theorem dJ7_fill_d0a16_14 : decode cJ7_fill_d0a16 14 = .ok (.lload_n 1, 1) := by decide +kernel
theorem dJ7_fill_d0a16_15 : decode cJ7_fill_d0a16 15 = .ok (.lastore, 1) := by decide +kernel
theorem dJ7_fill_d0a16_16 : decode cJ7_fill_d0a16 16 = .ok (.iinc 3 1, 3) := by decide +kernel
theorem dJ7_fill_d0a16_19 : decode cJ7_fill_d0a16 19 = .ok (.goto (-13), 3) := by decide +kernel
theorem dJ7_fill_d0a16_22 : decode cJ7_fill_d0a16 22 = .ok (.return_, 1) := by decide +kernel
theorem dJ7_fill_53178_0 : decode cJ7_fill_53178 0 = .ok (.iconst 0, 1) := by decide +kernel
theorem dJ7_fill_53178_1 : decode cJ7_fill_53178 1 = .ok (.istore_n 2, 1) := by decide +kernel
theorem dJ7_fill_53178_2 : decode cJ7_fill_53178 2 = .ok (.aload_n 0, 1) := by decide +kernel
theorem dJ7_fill_53178_3 : decode cJ7_fill_53178 3 = .ok (.arraylength, 1) := by decide +kernel
theorem dJ7_fill_53178_4 : decode cJ7_fill_53178 4 = .ok (.istore_n 3, 1) := by decide +kernel
theorem dJ7_fill_53178_5 : decode cJ7_fill_53178 5 = .ok (.iload_n 2, 1) := by decide +kernel
theorem dJ7_fill_53178_6 : decode cJ7_fill_53178 6 = .ok (.iload_n 3, 1) := by decide +kernel
theorem dJ7_fill_53178_7 : decode cJ7_fill_53178 7 = .ok (.if_icmp .ge 13, 3) := by decide +kernel
theorem dJ7_fill_53178_10 : decode cJ7_fill_53178 10 = .ok (.aload_n 0, 1) := by decide +kernel
theorem dJ7_fill_53178_11 : decode cJ7_fill_53178 11 = .ok (.iload_n 2, 1) := by decide +kernel
theorem dJ7_fill_53178_12 : decode cJ7_fill_53178 12 = .ok (.iload_n 1, 1) := by decide +kernel
theorem dJ7_fill_53178_13 : decode cJ7_fill_53178 13 = .ok (.iastore, 1) := by decide +kernel
theorem dJ7_fill_53178_14 : decode cJ7_fill_53178 14 = .ok (.iinc 2 1, 3) := by decide +kernel
theorem dJ7_fill_53178_17 : decode cJ7_fill_53178 17 = .ok (.goto (-12), 3) := by decide +kernel
theorem dJ7_fill_53178_20 : decode cJ7_fill_53178 20 = .ok (.return_, 1) := by decide +kernel
theorem dJ9_max_7cf53_0 : decode cJ9_max_7cf53 0 = .ok (.iload_n 0, 1) := by decide +kernel
theorem dJ9_max_7cf53_1 : decode cJ9_max_7cf53 1 = .ok (.iload_n 1, 1) := by decide +kernel
theorem dJ9_max_7cf53_2 : decode cJ9_max_7cf53 2 = .ok (.if_icmp .lt 7, 3) := by decide +kernel
theorem dJ9_max_7cf53_5 : decode cJ9_max_7cf53 5 = .ok (.iload_n 0, 1) := by decide +kernel
theorem dJ9_max_7cf53_6 : decode cJ9_max_7cf53 6 = .ok (.goto 4, 3) := by decide +kernel
theorem dJ9_max_7cf53_9 : decode cJ9_max_7cf53 9 = .ok (.iload_n 1, 1) := by decide +kernel
theorem dJ9_max_7cf53_10 : decode cJ9_max_7cf53 10 = .ok (.ireturn, 1) := by decide +kernel
theorem dJ9_min_7cf53_0 : decode cJ9_min_7cf53 0 = .ok (.iload_n 0, 1) := by decide +kernel
theorem dJ9_min_7cf53_1 : decode cJ9_min_7cf53 1 = .ok (.iload_n 1, 1) := by decide +kernel
theorem dJ9_min_7cf53_2 : decode cJ9_min_7cf53 2 = .ok (.if_icmp .gt 7, 3) := by decide +kernel
theorem dJ9_min_7cf53_5 : decode cJ9_min_7cf53 5 = .ok (.iload_n 0, 1) := by decide +kernel
theorem dJ9_min_7cf53_6 : decode cJ9_min_7cf53 6 = .ok (.goto 4, 3) := by decide +kernel
theorem dJ9_min_7cf53_9 : decode cJ9_min_7cf53 9 = .ok (.iload_n 1, 1) := by decide +kernel
theorem dJ9_min_7cf53_10 : decode cJ9_min_7cf53 10 = .ok (.ireturn, 1) := by decide +kernel
theorem dX0_init_0 : decode cX0_init 0 = .ok (.aload_n 0, 1) := by decide +kernel
theorem dX0_init_1 : decode cX0_init 1 = .ok (.invokespecial 3, 3) := by decide +kernel
theorem dX0_init_4 : decode cX0_init 4 = .ok (.aload_n 0, 1) := by decide +kernel
theorem dX0_init_5 : decode cX0_init 5 = .ok (.aload_n 1, 1) := by decide +kernel
theorem dX0_init_6 : decode cX0_init 6 = .ok (.putfield 9, 3) := by decide +kernel
theorem dX0_init_9 : decode cX0_init 9 = .ok (.aload_n 0, 1) := by decide +kernel
theorem dX0_init_10 : decode cX0_init 10 = .ok (.aload_n 2, 1) := by decide +kernel
theorem dX0_init_11 : decode cX0_init 11 = .ok (.putfield 15, 3) := by decide +kernel
theorem dX0_init_14 : decode cX0_init 14 = .ok (.aload_n 0, 1) := by decide +kernel
theorem dX0_init_15 : decode cX0_init 15 = .ok (.aload_n 3, 1) := by decide +kernel
theorem dX0_init_16 : decode cX0_init 16 = .ok (.putfield 19, 3) := by decide +kernel
theorem dX0_init_19 : decode cX0_init 19 = .ok (.return_, 1) := by decide +kernel
theorem dX0_findFault_0 : decode cX0_findFault 0 = .ok (.aload_n 0, 1) := by decide +kernel
theorem dX0_findFault_1 : decode cX0_findFault 1 = .ok (.aload_n 1, 1) := by decide +kernel
theorem dX0_findFault_2 : decode cX0_findFault 2 = .ok (.putfield 19, 3) := by decide +kernel
theorem dX0_findFault_5 : decode cX0_findFault 5 = .ok (.aload_n 0, 1) := by decide +kernel
theorem dX0_findFault_6 : decode cX0_findFault 6 = .ok (.iconst 0, 1) := by decide +kernel
theorem dX0_findFault_7 : decode cX0_findFault 7 = .ok (.putfield 23, 3) := by decide +kernel
theorem dX0_findFault_10 : decode cX0_findFault 10 = .ok (.aload_n 0, 1) := by decide +kernel
theorem dX0_findFault_11 : decode cX0_findFault 11 = .ok (.getfield 9, 3) := by decide +kernel
theorem dX0_findFault_14 : decode cX0_findFault 14 = .ok (.invokevirtual 27, 3) := by decide +kernel
theorem dX0_findFault_17 : decode cX0_findFault 17 = .ok (.aload_n 0, 1) := by decide +kernel
theorem dX0_findFault_18 : decode cX0_findFault 18 = .ok (.iconst 0, 1) := by decide +kernel
theorem dX0_findFault_19 : decode cX0_findFault 19 = .ok (.invokevirtual 32, 3) := by decide +kernel
theorem dX0_findFault_22 : decode cX0_findFault 22 = .ok (.ifCond .eq 21, 3) := by decide +kernel
theorem dX0_findFault_25 : decode cX0_findFault 25 = .ok (.aload_n 0, 1) := by decide +kernel
theorem dX0_findFault_26 : decode cX0_findFault 26 = .ok (.getfield 23, 3) := by decide +kernel
theorem dX0_findFault_29 : decode cX0_findFault 29 = .ok (.aload_n 0, 1) := by decide +kernel
theorem dX0_findFault_30 : decode cX0_findFault 30 = .ok (.getfield 19, 3) := by decide +kernel
theorem dX0_findFault_33 : decode cX0_findFault 33 = .ok (.getfield 36, 3) := by decide +kernel
theorem dX0_findFault_36 : decode cX0_findFault 36 = .ok (.if_icmp .ne 7, 3) := by decide +kernel
theorem dX0_findFault_39 : decode cX0_findFault 39 = .ok (.iconst (-1), 1) := by decide +kernel
theorem dX0_findFault_40 : decode cX0_findFault 40 = .ok (.goto 7, 3) := by decide +kernel
theorem dX0_findFault_43 : decode cX0_findFault 43 = .ok (.aload_n 0, 1) := by decide +kernel
theorem dX0_findFault_44 : decode cX0_findFault 44 = .ok (.getfield 23, 3) := by decide +kernel
theorem dX0_findFault_47 : decode cX0_findFault 47 = .ok (.ireturn, 1) := by decide +kernel
theorem dX0_passTree_0 : decode cX0_passTree 0 = .ok (.aload_n 0, 1) := by decide +kernel
theorem dX0_passTree_1 : decode cX0_passTree 1 = .ok (.getfield 19, 3) := by decide +kernel
theorem dX0_passTree_4 : decode cX0_passTree 4 = .ok (.aload_n 0, 1) := by decide +kernel
theorem dX0_passTree_5 : decode cX0_passTree 5 = .ok (.getfield 23, 3) := by decide +kernel
theorem dX0_passTree_8 : decode cX0_passTree 8 = .ok (.invokevirtual 41, 3) := by decide +kernel
theorem dX0_passTree_11 : decode cX0_passTree 11 = .ok (.istore_n 2, 1) := by decide +kernel
theorem dX0_passTree_12 : decode cX0_passTree 12 = .ok (.iload_n 2, 1) := by decide +kernel
theorem dX0_passTree_13 : decode cX0_passTree 13 = .ok (.bipush 46, 2) := by decide +kernel
theorem dX0_passTree_15 : decode cX0_passTree 15 = .ok (.if_icmp .ne 28, 3) := by decide +kernel
theorem dX0_passTree_18 : decode cX0_passTree 18 = .ok (.aload_n 0, 1) := by decide +kernel
theorem dX0_passTree_19 : decode cX0_passTree 19 = .ok (.getfield 9, 3) := by decide +kernel
theorem dX0_passTree_22 : decode cX0_passTree 22 = .ok (.invokevirtual 45, 3) := by decide +kernel
theorem dX0_passTree_25 : decode cX0_passTree 25 = .ok (.ifCond .ne 16, 3) := by decide +kernel
theorem dX0_passTree_28 : decode cX0_passTree 28 = .ok (.aload_n 0, 1) := by decide +kernel
theorem dX0_passTree_29 : decode cX0_passTree 29 = .ok (.bipush 46, 2) := by decide +kernel
theorem dX0_passTree_31 : decode cX0_passTree 31 = .ok (.invokevirtual 49, 3) := by decide +kernel
theorem dX0_passTree_34 : decode cX0_passTree 34 = .ok (.ifCond .eq 7, 3) := by decide +kernel
theorem dX0_passTree_37 : decode cX0_passTree 37 = .ok (.iconst 1, 1) := by decide +kernel
theorem dX0_passTree_38 : decode cX0_passTree 38 = .ok (.goto 4, 3) := by decide +kernel
theorem dX0_passTree_41 : decode cX0_passTree 41 = .ok (.iconst 0, 1) := by decide +kernel
theorem dX0_passTree_42 : decode cX0_passTree 42 = .ok (.ireturn, 1) := by decide +kernel
theorem dX0_passTree_43 : decode cX0_passTree 43 = .ok (.iload_n 2, 1) := by decide +kernel
theorem dX0_passTree_44 : decode cX0_passTree 44 = .ok (.bipush 33, 2) := by decide +kernel
theorem dX0_passTree_46 : decode cX0_passTree 46 = .ok (.if_icmp .ne 8, 3) := by decide +kernel
theorem dX0_passTree_49 : decode cX0_passTree 49 = .ok (.aload_n 0, 1) := by decide +kernel
theorem dX0_passTree_50 : decode cX0_passTree 50 = .ok (.invokevirtual 52, 3) := by decide +kernel
theorem dX0_passTree_53 : decode cX0_passTree 53 = .ok (.ireturn, 1) := by decide +kernel
theorem dX0_passTree_54 : decode cX0_passTree 54 = .ok (.iload_n 1, 1) := by decide +kernel
theorem dX0_passTree_55 : decode cX0_passTree 55 = .ok (.bipush 10, 2) := by decide +kernel
theorem dX0_passTree_57 : decode cX0_passTree 57 = .ok (.if_icmp .ge 19, 3) := by decide +kernel
theorem dX0_passTree_60 : decode cX0_passTree 60 = .ok (.aload_n 0, 1) := by decide +kernel
theorem dX0_passTree_61 : decode cX0_passTree 61 = .ok (.iload_n 2, 1) := by decide +kernel
theorem dX0_passTree_62 : decode cX0_passTree 62 = .ok (.invokestatic 56, 3) := by decide +kernel
theorem dX0_passTree_65 : decode cX0_passTree 65 = .ok (.iload_n 1, 1) := by decide +kernel
theorem dX0_passTree_66 : decode cX0_passTree 66 = .ok (.invokevirtual 59, 3) := by decide +kernel
theorem dX0_passTree_69 : decode cX0_passTree 69 = .ok (.ifCond .eq 7, 3) := by decide +kernel
theorem dX0_passTree_72 : decode cX0_passTree 72 = .ok (.iconst 1, 1) := by decide +kernel
theorem dX0_passTree_73 : decode cX0_passTree 73 = .ok (.goto 4, 3) := by decide +kernel
theorem dX0_passTree_76 : decode cX0_passTree 76 = .ok (.iconst 0, 1) := by decide +kernel
theorem dX0_passTree_77 : decode cX0_passTree 77 = .ok (.ireturn, 1) := by decide +kernel
theorem dX0_passBranches_0 : decode cX0_passBranches 0 = .ok (.iload_n 1, 1) := by decide +kernel
theorem dX0_passBranches_1 : decode cX0_passBranches 1 = .ok (.ifCond .lt 27, 3) := by decide +kernel
theorem dX0_passBranches_4 : decode cX0_passBranches 4 = .ok (.iload_n 1, 1) := by decide +kernel
theorem dX0_passBranches_5 : decode cX0_passBranches 5 = .ok (.aload_n 0, 1) := by decide +kernel
theorem dX0_passBranches_6 : decode cX0_passBranches 6 = .ok (.getfield 9, 3) := by decide +kernel
theorem dX0_passBranches_9 : decode cX0_passBranches 9 = .ok (.getfield 63, 3) := by decide +kernel
theorem dX0_passBranches_12 : decode cX0_passBranches 12 = .ok (.if_icmp .ge 16, 3) := by decide +kernel
theorem dX0_passBranches_15 : decode cX0_passBranches 15 = .ok (.aload_n 0, 1) := by decide +kernel
theorem dX0_passBranches_16 : decode cX0_passBranches 16 = .ok (.getfield 9, 3) := by decide +kernel
theorem dX0_passBranches_19 : decode cX0_passBranches 19 = .ok (.getfield 66, 3) := by decide +kernel
theorem dX0_passBranches_22 : decode cX0_passBranches 22 = .ok (.iload_n 1, 1) := by decide +kernel
theorem dX0_passBranches_23 : decode cX0_passBranches 23 = .ok (.iaload, 1) := by decide +kernel
theorem dX0_passBranches_24 : decode cX0_passBranches 24 = .ok (.iconst 1, 1) := by decide +kernel
theorem dX0_passBranches_25 : decode cX0_passBranches 25 = .ok (.if_icmp .eq 5, 3) := by decide +kernel
theorem dX0_passBranches_28 : decode cX0_passBranches 28 = .ok (.iconst 0, 1) := by decide +kernel
theorem dX0_passBranches_29 : decode cX0_passBranches 29 = .ok (.ireturn, 1) := by decide +kernel
theorem dX0_passBranches_30 : decode cX0_passBranches 30 = .ok (.aload_n 0, 1) := by decide +kernel
theorem dX0_passBranches_31 : decode cX0_passBranches 31 = .ok (.dup, 1) := by decide +kernel
theorem dX0_passBranches_32 : decode cX0_passBranches 32 = .ok (.getfield 23, 3) := by decide +kernel
theorem dX0_passBranches_35 : decode cX0_passBranches 35 = .ok (.iconst 1, 1) := by decide +kernel
theorem dX0_passBranches_36 : decode cX0_passBranches 36 = .ok (.iadd, 1) := by decide +kernel
theorem dX0_passBranches_37 : decode cX0_passBranches 37 = .ok (.putfield 23, 3) := by decide +kernel
theorem dX0_passBranches_40 : decode cX0_passBranches 40 = .ok (.aload_n 0, 1) := by decide +kernel
theorem dX0_passBranches_41 : decode cX0_passBranches 41 = .ok (.bipush 40, 2) := by decide +kernel
theorem dX0_passBranches_43 : decode cX0_passBranches 43 = .ok (.invokevirtual 49, 3) := by decide +kernel
theorem dX0_passBranches_46 : decode cX0_passBranches 46 = .ok (.ifCond .ne 5, 3) := by decide +kernel
theorem dX0_passBranches_49 : decode cX0_passBranches 49 = .ok (.iconst 0, 1) := by decide +kernel
theorem dX0_passBranches_50 : decode cX0_passBranches 50 = .ok (.ireturn, 1) := by decide +kernel
theorem dX0_passBranches_51 : decode cX0_passBranches 51 = .ok (.aload_n 0, 1) := by decide +kernel
theorem dX0_passBranches_52 : decode cX0_passBranches 52 = .ok (.getfield 9, 3) := by decide +kernel
theorem dX0_passBranches_55 : decode cX0_passBranches 55 = .ok (.getfield 66, 3) := by decide +kernel
theorem dX0_passBranches_58 : decode cX0_passBranches 58 = .ok (.iload_n 1, 1) := by decide +kernel
theorem dX0_passBranches_59 : decode cX0_passBranches 59 = .ok (.iconst 0, 1) := by decide +kernel
theorem dX0_passBranches_60 : decode cX0_passBranches 60 = .ok (.iastore, 1) := by decide +kernel
theorem dX0_passBranches_61 : decode cX0_passBranches 61 = .ok (.aload_n 0, 1) := by decide +kernel
theorem dX0_passBranches_62 : decode cX0_passBranches 62 = .ok (.iload_n 2, 1) := by decide +kernel
theorem dX0_passBranches_63 : decode cX0_passBranches 63 = .ok (.iconst 1, 1) := by decide +kernel
theorem dX0_passBranches_64 : decode cX0_passBranches 64 = .ok (.iadd, 1) := by decide +kernel
theorem dX0_passBranches_65 : decode cX0_passBranches 65 = .ok (.invokevirtual 32, 3) := by decide +kernel
theorem dX0_passBranches_68 : decode cX0_passBranches 68 = .ok (.ifCond .eq 12, 3) := by decide +kernel
theorem dX0_passBranches_71 : decode cX0_passBranches 71 = .ok (.aload_n 0, 1) := by decide +kernel
theorem dX0_passBranches_72 : decode cX0_passBranches 72 = .ok (.bipush 44, 2) := by decide +kernel
theorem dX0_passBranches_74 : decode cX0_passBranches 74 = .ok (.invokevirtual 49, 3) := by decide +kernel
theorem dX0_passBranches_77 : decode cX0_passBranches 77 = .ok (.ifCond .ne 5, 3) := by decide +kernel
theorem dX0_passBranches_80 : decode cX0_passBranches 80 = .ok (.iconst 0, 1) := by decide +kernel
theorem dX0_passBranches_81 : decode cX0_passBranches 81 = .ok (.ireturn, 1) := by decide +kernel
theorem dX0_passBranches_82 : decode cX0_passBranches 82 = .ok (.aload_n 0, 1) := by decide +kernel
theorem dX0_passBranches_83 : decode cX0_passBranches 83 = .ok (.getfield 9, 3) := by decide +kernel
theorem dX0_passBranches_86 : decode cX0_passBranches 86 = .ok (.getfield 66, 3) := by decide +kernel
theorem dX0_passBranches_89 : decode cX0_passBranches 89 = .ok (.iload_n 1, 1) := by decide +kernel
theorem dX0_passBranches_90 : decode cX0_passBranches 90 = .ok (.iconst 2, 1) := by decide +kernel
theorem dX0_passBranches_91 : decode cX0_passBranches 91 = .ok (.iastore, 1) := by decide +kernel
theorem dX0_passBranches_92 : decode cX0_passBranches 92 = .ok (.aload_n 0, 1) := by decide +kernel
theorem dX0_passBranches_93 : decode cX0_passBranches 93 = .ok (.iload_n 2, 1) := by decide +kernel
theorem dX0_passBranches_94 : decode cX0_passBranches 94 = .ok (.iconst 1, 1) := by decide +kernel
theorem dX0_passBranches_95 : decode cX0_passBranches 95 = .ok (.iadd, 1) := by decide +kernel
theorem dX0_passBranches_96 : decode cX0_passBranches 96 = .ok (.invokevirtual 32, 3) := by decide +kernel
theorem dX0_passBranches_99 : decode cX0_passBranches 99 = .ok (.ifCond .eq 12, 3) := by decide +kernel
theorem dX0_passBranches_102 : decode cX0_passBranches 102 = .ok (.aload_n 0, 1) := by decide +kernel
theorem dX0_passBranches_103 : decode cX0_passBranches 103 = .ok (.bipush 41, 2) := by decide +kernel
theorem dX0_passBranches_105 : decode cX0_passBranches 105 = .ok (.invokevirtual 49, 3) := by decide +kernel
theorem dX0_passBranches_108 : decode cX0_passBranches 108 = .ok (.ifCond .ne 5, 3) := by decide +kernel
theorem dX0_passBranches_111 : decode cX0_passBranches 111 = .ok (.iconst 0, 1) := by decide +kernel
theorem dX0_passBranches_112 : decode cX0_passBranches 112 = .ok (.ireturn, 1) := by decide +kernel
theorem dX0_passBranches_113 : decode cX0_passBranches 113 = .ok (.aload_n 0, 1) := by decide +kernel
theorem dX0_passBranches_114 : decode cX0_passBranches 114 = .ok (.getfield 9, 3) := by decide +kernel
theorem dX0_passBranches_117 : decode cX0_passBranches 117 = .ok (.getfield 66, 3) := by decide +kernel
theorem dX0_passBranches_120 : decode cX0_passBranches 120 = .ok (.iload_n 1, 1) := by decide +kernel
theorem dX0_passBranches_121 : decode cX0_passBranches 121 = .ok (.iconst 1, 1) := by decide +kernel
theorem dX0_passBranches_122 : decode cX0_passBranches 122 = .ok (.iastore, 1) := by decide +kernel
theorem dX0_passBranches_123 : decode cX0_passBranches 123 = .ok (.iconst 1, 1) := by decide +kernel
theorem dX0_passBranches_124 : decode cX0_passBranches 124 = .ok (.ireturn, 1) := by decide +kernel
theorem dX0_passRound_0 : decode cX0_passRound 0 = .ok (.aload_n 0, 1) := by decide +kernel
theorem dX0_passRound_1 : decode cX0_passRound 1 = .ok (.dup, 1) := by decide +kernel
theorem dX0_passRound_2 : decode cX0_passRound 2 = .ok (.getfield 23, 3) := by decide +kernel
theorem dX0_passRound_5 : decode cX0_passRound 5 = .ok (.iconst 1, 1) := by decide +kernel
theorem dX0_passRound_6 : decode cX0_passRound 6 = .ok (.iadd, 1) := by decide +kernel
theorem dX0_passRound_7 : decode cX0_passRound 7 = .ok (.putfield 23, 3) := by decide +kernel
theorem dX0_passRound_10 : decode cX0_passRound 10 = .ok (.aload_n 0, 1) := by decide +kernel
theorem dX0_passRound_11 : decode cX0_passRound 11 = .ok (.iconst 0, 1) := by decide +kernel
theorem dX0_passRound_12 : decode cX0_passRound 12 = .ok (.putfield 70, 3) := by decide +kernel
theorem dX0_passRound_15 : decode cX0_passRound 15 = .ok (.aload_n 0, 1) := by decide +kernel
theorem dX0_passRound_16 : decode cX0_passRound 16 = .ok (.lconst 0, 1) := by decide +kernel
theorem dX0_passRound_17 : decode cX0_passRound 17 = .ok (.putfield 74, 3) := by decide +kernel
theorem dX0_passRound_20 : decode cX0_passRound 20 = .ok (.iconst 0, 1) := by decide +kernel
theorem dX0_passRound_21 : decode cX0_passRound 21 = .ok (.istore_n 1, 1) := by decide +kernel
theorem dX0_passRound_22 : decode cX0_passRound 22 = .ok (.iload_n 1, 1) := by decide +kernel
theorem dX0_passRound_23 : decode cX0_passRound 23 = .ok (.sipush 6000, 3) := by decide +kernel
theorem dX0_passRound_26 : decode cX0_passRound 26 = .ok (.if_icmp .ge 65, 3) := by decide +kernel
theorem dX0_passRound_29 : decode cX0_passRound 29 = .ok (.aload_n 0, 1) := by decide +kernel
theorem dX0_passRound_30 : decode cX0_passRound 30 = .ok (.getfield 19, 3) := by decide +kernel
theorem dX0_passRound_33 : decode cX0_passRound 33 = .ok (.aload_n 0, 1) := by decide +kernel
theorem dX0_passRound_34 : decode cX0_passRound 34 = .ok (.getfield 23, 3) := by decide +kernel
theorem dX0_passRound_37 : decode cX0_passRound 37 = .ok (.invokevirtual 41, 3) := by decide +kernel
theorem dX0_passRound_40 : decode cX0_passRound 40 = .ok (.bipush 59, 2) := by decide +kernel
theorem dX0_passRound_42 : decode cX0_passRound 42 = .ok (.if_icmp .eq 49, 3) := by decide +kernel
theorem dX0_passRound_45 : decode cX0_passRound 45 = .ok (.aload_n 0, 1) := by decide +kernel
theorem dX0_passRound_46 : decode cX0_passRound 46 = .ok (.getfield 19, 3) := by decide +kernel
theorem dX0_passRound_49 : decode cX0_passRound 49 = .ok (.aload_n 0, 1) := by decide +kernel
theorem dX0_passRound_50 : decode cX0_passRound 50 = .ok (.getfield 23, 3) := by decide +kernel
theorem dX0_passRound_53 : decode cX0_passRound 53 = .ok (.invokevirtual 41, 3) := by decide +kernel
theorem dX0_passRound_56 : decode cX0_passRound 56 = .ok (.invokestatic 56, 3) := by decide +kernel
theorem dX0_passRound_59 : decode cX0_passRound 59 = .ok (.istore_n 2, 1) := by decide +kernel
theorem dX0_passRound_60 : decode cX0_passRound 60 = .ok (.iload_n 2, 1) := by decide +kernel
theorem dX0_passRound_61 : decode cX0_passRound 61 = .ok (.iconst (-1), 1) := by decide +kernel
theorem dX0_passRound_62 : decode cX0_passRound 62 = .ok (.if_icmp .ne 13, 3) := by decide +kernel
theorem dX0_passRound_65 : decode cX0_passRound 65 = .ok (.aload_n 0, 1) := by decide +kernel
theorem dX0_passRound_66 : decode cX0_passRound 66 = .ok (.invokevirtual 78, 3) := by decide +kernel
theorem dX0_passRound_69 : decode cX0_passRound 69 = .ok (.ifCond .ne 16, 3) := by decide +kernel
theorem dX0_passRound_72 : decode cX0_passRound 72 = .ok (.goto 11, 3) := by decide +kernel
theorem dX0_passRound_75 : decode cX0_passRound 75 = .ok (.aload_n 0, 1) := by decide +kernel
theorem dX0_passRound_76 : decode cX0_passRound 76 = .ok (.iload_n 2, 1) := by decide +kernel
theorem dX0_passRound_77 : decode cX0_passRound 77 = .ok (.invokevirtual 81, 3) := by decide +kernel
theorem dX0_passRound_80 : decode cX0_passRound 80 = .ok (.ifCond .ne 5, 3) := by decide +kernel
theorem dX0_passRound_83 : decode cX0_passRound 83 = .ok (.iconst 0, 1) := by decide +kernel
theorem dX0_passRound_84 : decode cX0_passRound 84 = .ok (.ireturn, 1) := by decide +kernel
theorem dX0_passRound_85 : decode cX0_passRound 85 = .ok (.iinc 1 1, 3) := by decide +kernel
theorem dX0_passRound_88 : decode cX0_passRound 88 = .ok (.goto (-66), 3) := by decide +kernel
theorem dX0_passRound_91 : decode cX0_passRound 91 = .ok (.aload_n 0, 1) := by decide +kernel
theorem dX0_passRound_92 : decode cX0_passRound 92 = .ok (.getfield 70, 3) := by decide +kernel
theorem dX0_passRound_95 : decode cX0_passRound 95 = .ok (.ifCond .eq 36, 3) := by decide +kernel
theorem dX0_passRound_98 : decode cX0_passRound 98 = .ok (.aload_n 0, 1) := by decide +kernel
theorem dX0_passRound_99 : decode cX0_passRound 99 = .ok (.getfield 84, 3) := by decide +kernel
theorem dX0_passRound_102 : decode cX0_passRound 102 = .ok (.aload_n 0, 1) := by decide +kernel
theorem dX0_passRound_103 : decode cX0_passRound 103 = .ok (.getfield 87, 3) := by decide +kernel
theorem dX0_passRound_106 : decode cX0_passRound 106 = .ok (.if_icmp .ne 25, 3) := by decide +kernel
theorem dX0_passRound_109 : decode cX0_passRound 109 = .ok (.aload_n 0, 1) := by decide +kernel
theorem dX0_passRound_110 : decode cX0_passRound 110 = .ok (.getfield 74, 3) := by decide +kernel
theorem dX0_passRound_113 : decode cX0_passRound 113 = .ok (.lconst 0, 1) := by decide +kernel
theorem dX0_passRound_114 : decode cX0_passRound 114 = .ok (.lcmp, 1) := by decide +kernel
theorem dX0_passRound_115 : decode cX0_passRound 115 = .ok (.ifCond .ge 16, 3) := by decide +kernel
theorem dX0_passRound_118 : decode cX0_passRound 118 = .ok (.aload_n 0, 1) := by decide +kernel
theorem dX0_passRound_119 : decode cX0_passRound 119 = .ok (.bipush 59, 2) := by decide +kernel
theorem dX0_passRound_121 : decode cX0_passRound 121 = .ok (.invokevirtual 49, 3) := by decide +kernel
theorem dX0_passRound_124 : decode cX0_passRound 124 = .ok (.ifCond .eq 7, 3) := by decide +kernel
theorem dX0_passRound_127 : decode cX0_passRound 127 = .ok (.iconst 1, 1) := by decide +kernel
theorem dX0_passRound_128 : decode cX0_passRound 128 = .ok (.goto 4, 3) := by decide +kernel
theorem dX0_passRound_131 : decode cX0_passRound 131 = .ok (.iconst 0, 1) := by decide +kernel
theorem dX0_passRound_132 : decode cX0_passRound 132 = .ok (.ireturn, 1) := by decide +kernel
theorem dX0_passGiven_0 : decode cX0_passGiven 0 = .ok (.iload_n 1, 1) := by decide +kernel
theorem dX0_passGiven_1 : decode cX0_passGiven 1 = .ok (.ifCond .lt 27, 3) := by decide +kernel
theorem dX0_passGiven_4 : decode cX0_passGiven 4 = .ok (.iload_n 1, 1) := by decide +kernel
theorem dX0_passGiven_5 : decode cX0_passGiven 5 = .ok (.aload_n 0, 1) := by decide +kernel
theorem dX0_passGiven_6 : decode cX0_passGiven 6 = .ok (.getfield 9, 3) := by decide +kernel
theorem dX0_passGiven_9 : decode cX0_passGiven 9 = .ok (.getfield 63, 3) := by decide +kernel
theorem dX0_passGiven_12 : decode cX0_passGiven 12 = .ok (.if_icmp .ge 16, 3) := by decide +kernel
theorem dX0_passGiven_15 : decode cX0_passGiven 15 = .ok (.aload_n 0, 1) := by decide +kernel
theorem dX0_passGiven_16 : decode cX0_passGiven 16 = .ok (.getfield 9, 3) := by decide +kernel
theorem dX0_passGiven_19 : decode cX0_passGiven 19 = .ok (.getfield 66, 3) := by decide +kernel
theorem dX0_passGiven_22 : decode cX0_passGiven 22 = .ok (.iload_n 1, 1) := by decide +kernel
theorem dX0_passGiven_23 : decode cX0_passGiven 23 = .ok (.iaload, 1) := by decide +kernel
theorem dX0_passGiven_24 : decode cX0_passGiven 24 = .ok (.iconst 1, 1) := by decide +kernel
theorem dX0_passGiven_25 : decode cX0_passGiven 25 = .ok (.if_icmp .ne 5, 3) := by decide +kernel
theorem dX0_passGiven_28 : decode cX0_passGiven 28 = .ok (.iconst 0, 1) := by decide +kernel
theorem dX0_passGiven_29 : decode cX0_passGiven 29 = .ok (.ireturn, 1) := by decide +kernel
theorem dX0_passGiven_30 : decode cX0_passGiven 30 = .ok (.aload_n 0, 1) := by decide +kernel
theorem dX0_passGiven_31 : decode cX0_passGiven 31 = .ok (.aload_n 0, 1) := by decide +kernel
theorem dX0_passGiven_32 : decode cX0_passGiven 32 = .ok (.getfield 9, 3) := by decide +kernel
theorem dX0_passGiven_35 : decode cX0_passGiven 35 = .ok (.iload_n 1, 1) := by decide +kernel
theorem dX0_passGiven_36 : decode cX0_passGiven 36 = .ok (.invokevirtual 90, 3) := by decide +kernel
theorem dX0_passGiven_39 : decode cX0_passGiven 39 = .ok (.aload_n 0, 1) := by decide +kernel
theorem dX0_passGiven_40 : decode cX0_passGiven 40 = .ok (.getfield 9, 3) := by decide +kernel
theorem dX0_passGiven_43 : decode cX0_passGiven 43 = .ok (.iload_n 1, 1) := by decide +kernel
theorem dX0_passGiven_44 : decode cX0_passGiven 44 = .ok (.invokevirtual 93, 3) := by decide +kernel
theorem dX0_passGiven_47 : decode cX0_passGiven 47 = .ok (.aload_n 0, 1) := by decide +kernel
theorem dX0_passGiven_48 : decode cX0_passGiven 48 = .ok (.getfield 9, 3) := by decide +kernel
theorem dX0_passGiven_51 : decode cX0_passGiven 51 = .ok (.iload_n 1, 1) := by decide +kernel
theorem dX0_passGiven_52 : decode cX0_passGiven 52 = .ok (.invokevirtual 96, 3) := by decide +kernel
theorem dX0_passGiven_55 : decode cX0_passGiven 55 = .ok (.invokevirtual 99, 3) := by decide +kernel
theorem dX0_passGiven_58 : decode cX0_passGiven 58 = .ok (.ifCond .ne 5, 3) := by decide +kernel
theorem dX0_passGiven_61 : decode cX0_passGiven 61 = .ok (.iconst 0, 1) := by decide +kernel
theorem dX0_passGiven_62 : decode cX0_passGiven 62 = .ok (.ireturn, 1) := by decide +kernel
theorem dX0_passGiven_63 : decode cX0_passGiven 63 = .ok (.aload_n 0, 1) := by decide +kernel
theorem dX0_passGiven_64 : decode cX0_passGiven 64 = .ok (.dup, 1) := by decide +kernel
theorem dX0_passGiven_65 : decode cX0_passGiven 65 = .ok (.getfield 23, 3) := by decide +kernel
theorem dX0_passGiven_68 : decode cX0_passGiven 68 = .ok (.iconst 1, 1) := by decide +kernel
theorem dX0_passGiven_69 : decode cX0_passGiven 69 = .ok (.iadd, 1) := by decide +kernel
theorem dX0_passGiven_70 : decode cX0_passGiven 70 = .ok (.putfield 23, 3) := by decide +kernel
theorem dX0_passGiven_73 : decode cX0_passGiven 73 = .ok (.iconst 1, 1) := by decide +kernel
theorem dX0_passGiven_74 : decode cX0_passGiven 74 = .ok (.ireturn, 1) := by decide +kernel
theorem dX0_passConstraint_0 : decode cX0_passConstraint 0 = .ok (.aload_n 0, 1) := by decide +kernel
theorem dX0_passConstraint_1 : decode cX0_passConstraint 1 = .ok (.getfield 23, 3) := by decide +kernel
theorem dX0_passConstraint_4 : decode cX0_passConstraint 4 = .ok (.istore_n 1, 1) := by decide +kernel
theorem dX0_passConstraint_5 : decode cX0_passConstraint 5 = .ok (.aload_n 0, 1) := by decide +kernel
theorem dX0_passConstraint_6 : decode cX0_passConstraint 6 = .ok (.bipush 91, 2) := by decide +kernel
theorem dX0_passConstraint_8 : decode cX0_passConstraint 8 = .ok (.invokevirtual 49, 3) := by decide +kernel
theorem dX0_passConstraint_11 : decode cX0_passConstraint 11 = .ok (.ifCond .ne 5, 3) := by decide +kernel
theorem dX0_passConstraint_14 : decode cX0_passConstraint 14 = .ok (.iconst 0, 1) := by decide +kernel
theorem dX0_passConstraint_15 : decode cX0_passConstraint 15 = .ok (.ireturn, 1) := by decide +kernel
theorem dX0_passConstraint_16 : decode cX0_passConstraint 16 = .ok (.aload_n 0, 1) := by decide +kernel
theorem dX0_passConstraint_17 : decode cX0_passConstraint 17 = .ok (.getfield 19, 3) := by decide +kernel
theorem dX0_passConstraint_20 : decode cX0_passConstraint 20 = .ok (.aload_n 0, 1) := by decide +kernel
theorem dX0_passConstraint_21 : decode cX0_passConstraint 21 = .ok (.getfield 23, 3) := by decide +kernel
theorem dX0_passConstraint_24 : decode cX0_passConstraint 24 = .ok (.invokevirtual 41, 3) := by decide +kernel
theorem dX0_passConstraint_27 : decode cX0_passConstraint 27 = .ok (.invokestatic 56, 3) := by decide +kernel
theorem dX0_passConstraint_30 : decode cX0_passConstraint 30 = .ok (.istore_n 2, 1) := by decide +kernel
theorem dX0_passConstraint_31 : decode cX0_passConstraint 31 = .ok (.iload_n 2, 1) := by decide +kernel
theorem dX0_passConstraint_32 : decode cX0_passConstraint 32 = .ok (.iconst (-1), 1) := by decide +kernel
theorem dX0_passConstraint_33 : decode cX0_passConstraint 33 = .ok (.if_icmp .ne 5, 3) := by decide +kernel
theorem dX0_passConstraint_36 : decode cX0_passConstraint 36 = .ok (.iconst 0, 1) := by decide +kernel
theorem dX0_passConstraint_37 : decode cX0_passConstraint 37 = .ok (.ireturn, 1) := by decide +kernel
theorem dX0_passConstraint_38 : decode cX0_passConstraint 38 = .ok (.aload_n 0, 1) := by decide +kernel
theorem dX0_passConstraint_39 : decode cX0_passConstraint 39 = .ok (.dup, 1) := by decide +kernel
theorem dX0_passConstraint_40 : decode cX0_passConstraint 40 = .ok (.getfield 23, 3) := by decide +kernel
theorem dX0_passConstraint_43 : decode cX0_passConstraint 43 = .ok (.iconst 1, 1) := by decide +kernel
theorem dX0_passConstraint_44 : decode cX0_passConstraint 44 = .ok (.iadd, 1) := by decide +kernel
theorem dX0_passConstraint_45 : decode cX0_passConstraint 45 = .ok (.putfield 23, 3) := by decide +kernel
theorem dX0_passConstraint_48 : decode cX0_passConstraint 48 = .ok (.aload_n 0, 1) := by decide +kernel
theorem dX0_passConstraint_49 : decode cX0_passConstraint 49 = .ok (.getfield 19, 3) := by decide +kernel
theorem dX0_passConstraint_52 : decode cX0_passConstraint 52 = .ok (.aload_n 0, 1) := by decide +kernel
theorem dX0_passConstraint_53 : decode cX0_passConstraint 53 = .ok (.getfield 23, 3) := by decide +kernel
theorem dX0_passConstraint_56 : decode cX0_passConstraint 56 = .ok (.invokevirtual 41, 3) := by decide +kernel
theorem dX0_passConstraint_59 : decode cX0_passConstraint 59 = .ok (.invokestatic 56, 3) := by decide +kernel
theorem dX0_passConstraint_62 : decode cX0_passConstraint 62 = .ok (.istore_n 3, 1) := by decide +kernel
theorem dX0_passConstraint_63 : decode cX0_passConstraint 63 = .ok (.iload_n 3, 1) := by decide +kernel
theorem dX0_passConstraint_64 : decode cX0_passConstraint 64 = .ok (.iconst (-1), 1) := by decide +kernel
theorem dX0_passConstraint_65 : decode cX0_passConstraint 65 = .ok (.if_icmp .eq 20, 3) := by decide +kernel
theorem dX0_passConstraint_68 : decode cX0_passConstraint 68 = .ok (.bipush 10, 2) := by decide +kernel
theorem dX0_passConstraint_70 : decode cX0_passConstraint 70 = .ok (.iload_n 2, 1) := by decide +kernel
theorem dX0_passConstraint_71 : decode cX0_passConstraint 71 = .ok (.imul, 1) := by decide +kernel
theorem dX0_passConstraint_72 : decode cX0_passConstraint 72 = .ok (.iload_n 3, 1) := by decide +kernel
theorem dX0_passConstraint_73 : decode cX0_passConstraint 73 = .ok (.iadd, 1) := by decide +kernel
theorem dX0_passConstraint_74 : decode cX0_passConstraint 74 = .ok (.istore_n 2, 1) := by decide +kernel
theorem dX0_passConstraint_75 : decode cX0_passConstraint 75 = .ok (.aload_n 0, 1) := by decide +kernel
theorem dX0_passConstraint_76 : decode cX0_passConstraint 76 = .ok (.dup, 1) := by decide +kernel
theorem dX0_passConstraint_77 : decode cX0_passConstraint 77 = .ok (.getfield 23, 3) := by decide +kernel
theorem dX0_passConstraint_80 : decode cX0_passConstraint 80 = .ok (.iconst 1, 1) := by decide +kernel
theorem dX0_passConstraint_81 : decode cX0_passConstraint 81 = .ok (.iadd, 1) := by decide +kernel
theorem dX0_passConstraint_82 : decode cX0_passConstraint 82 = .ok (.putfield 23, 3) := by decide +kernel
theorem dX0_passConstraint_85 : decode cX0_passConstraint 85 = .ok (.aload_n 0, 1) := by decide +kernel
theorem dX0_passConstraint_86 : decode cX0_passConstraint 86 = .ok (.bipush 93, 2) := by decide +kernel
theorem dX0_passConstraint_88 : decode cX0_passConstraint 88 = .ok (.invokevirtual 49, 3) := by decide +kernel
theorem dX0_passConstraint_91 : decode cX0_passConstraint 91 = .ok (.ifCond .ne 5, 3) := by decide +kernel
theorem dX0_passConstraint_94 : decode cX0_passConstraint 94 = .ok (.iconst 0, 1) := by decide +kernel
theorem dX0_passConstraint_95 : decode cX0_passConstraint 95 = .ok (.ireturn, 1) := by decide +kernel
theorem dX0_passConstraint_96 : decode cX0_passConstraint 96 = .ok (.iload_n 2, 1) := by decide +kernel
theorem dX0_passConstraint_97 : decode cX0_passConstraint 97 = .ok (.aload_n 0, 1) := by decide +kernel
theorem dX0_passConstraint_98 : decode cX0_passConstraint 98 = .ok (.getfield 15, 3) := by decide +kernel
theorem dX0_passConstraint_101 : decode cX0_passConstraint 101 = .ok (.getfield 103, 3) := by decide +kernel
theorem dX0_passConstraint_104 : decode cX0_passConstraint 104 = .ok (.if_icmp .ge 37, 3) := by decide +kernel
theorem dX0_passConstraint_107 : decode cX0_passConstraint 107 = .ok (.aload_n 0, 1) := by decide +kernel
theorem dX0_passConstraint_108 : decode cX0_passConstraint 108 = .ok (.aload_n 0, 1) := by decide +kernel
theorem dX0_passConstraint_109 : decode cX0_passConstraint 109 = .ok (.getfield 15, 3) := by decide +kernel
theorem dX0_passConstraint_112 : decode cX0_passConstraint 112 = .ok (.getfield 108, 3) := by decide +kernel
theorem dX0_passConstraint_115 : decode cX0_passConstraint 115 = .ok (.iload_n 2, 1) := by decide +kernel
theorem dX0_passConstraint_116 : decode cX0_passConstraint 116 = .ok (.iaload, 1) := by decide +kernel
theorem dX0_passConstraint_117 : decode cX0_passConstraint 117 = .ok (.aload_n 0, 1) := by decide +kernel
theorem dX0_passConstraint_118 : decode cX0_passConstraint 118 = .ok (.getfield 15, 3) := by decide +kernel
theorem dX0_passConstraint_121 : decode cX0_passConstraint 121 = .ok (.getfield 111, 3) := by decide +kernel
theorem dX0_passConstraint_124 : decode cX0_passConstraint 124 = .ok (.iload_n 2, 1) := by decide +kernel
theorem dX0_passConstraint_125 : decode cX0_passConstraint 125 = .ok (.iaload, 1) := by decide +kernel
theorem dX0_passConstraint_126 : decode cX0_passConstraint 126 = .ok (.aload_n 0, 1) := by decide +kernel
theorem dX0_passConstraint_127 : decode cX0_passConstraint 127 = .ok (.getfield 15, 3) := by decide +kernel
theorem dX0_passConstraint_130 : decode cX0_passConstraint 130 = .ok (.getfield 114, 3) := by decide +kernel
theorem dX0_passConstraint_133 : decode cX0_passConstraint 133 = .ok (.iload_n 2, 1) := by decide +kernel
theorem dX0_passConstraint_134 : decode cX0_passConstraint 134 = .ok (.iaload, 1) := by decide +kernel
theorem dX0_passConstraint_135 : decode cX0_passConstraint 135 = .ok (.invokevirtual 99, 3) := by decide +kernel
theorem dX0_passConstraint_138 : decode cX0_passConstraint 138 = .ok (.ifCond .ne 10, 3) := by decide +kernel
theorem dX0_passConstraint_141 : decode cX0_passConstraint 141 = .ok (.aload_n 0, 1) := by decide +kernel
theorem dX0_passConstraint_142 : decode cX0_passConstraint 142 = .ok (.iload_n 1, 1) := by decide +kernel
theorem dX0_passConstraint_143 : decode cX0_passConstraint 143 = .ok (.putfield 23, 3) := by decide +kernel
theorem dX0_passConstraint_146 : decode cX0_passConstraint 146 = .ok (.iconst 0, 1) := by decide +kernel
theorem dX0_passConstraint_147 : decode cX0_passConstraint 147 = .ok (.ireturn, 1) := by decide +kernel
theorem dX0_passConstraint_148 : decode cX0_passConstraint 148 = .ok (.iconst 1, 1) := by decide +kernel
theorem dX0_passConstraint_149 : decode cX0_passConstraint 149 = .ok (.ireturn, 1) := by decide +kernel
theorem dX0_leadOn_0 : decode cX0_leadOn 0 = .ok (.aload_n 0, 1) := by decide +kernel
theorem dX0_leadOn_1 : decode cX0_leadOn 1 = .ok (.getfield 70, 3) := by decide +kernel
theorem dX0_leadOn_4 : decode cX0_leadOn 4 = .ok (.ifCond .eq 13, 3) := by decide +kernel
theorem dX0_leadOn_7 : decode cX0_leadOn 7 = .ok (.iload_n 1, 1) := by decide +kernel
theorem dX0_leadOn_8 : decode cX0_leadOn 8 = .ok (.aload_n 0, 1) := by decide +kernel
theorem dX0_leadOn_9 : decode cX0_leadOn 9 = .ok (.getfield 84, 3) := by decide +kernel
theorem dX0_leadOn_12 : decode cX0_leadOn 12 = .ok (.if_icmp .eq 5, 3) := by decide +kernel
theorem dX0_leadOn_15 : decode cX0_leadOn 15 = .ok (.iconst 0, 1) := by decide +kernel
theorem dX0_leadOn_16 : decode cX0_leadOn 16 = .ok (.ireturn, 1) := by decide +kernel
theorem dX0_leadOn_17 : decode cX0_leadOn 17 = .ok (.aload_n 0, 1) := by decide +kernel
theorem dX0_leadOn_18 : decode cX0_leadOn 18 = .ok (.getfield 70, 3) := by decide +kernel
theorem dX0_leadOn_21 : decode cX0_leadOn 21 = .ok (.ifCond .ne 13, 3) := by decide +kernel
theorem dX0_leadOn_24 : decode cX0_leadOn 24 = .ok (.aload_n 0, 1) := by decide +kernel
theorem dX0_leadOn_25 : decode cX0_leadOn 25 = .ok (.iload_n 1, 1) := by decide +kernel
theorem dX0_leadOn_26 : decode cX0_leadOn 26 = .ok (.putfield 87, 3) := by decide +kernel
theorem dX0_leadOn_29 : decode cX0_leadOn 29 = .ok (.aload_n 0, 1) := by decide +kernel
theorem dX0_leadOn_30 : decode cX0_leadOn 30 = .ok (.iconst 1, 1) := by decide +kernel
theorem dX0_leadOn_31 : decode cX0_leadOn 31 = .ok (.putfield 70, 3) := by decide +kernel
theorem dX0_leadOn_34 : decode cX0_leadOn 34 = .ok (.aload_n 0, 1) := by decide +kernel
theorem dX0_leadOn_35 : decode cX0_leadOn 35 = .ok (.iload_n 2, 1) := by decide +kernel
theorem dX0_leadOn_36 : decode cX0_leadOn 36 = .ok (.putfield 84, 3) := by decide +kernel
theorem dX0_leadOn_39 : decode cX0_leadOn 39 = .ok (.aload_n 0, 1) := by decide +kernel
theorem dX0_leadOn_40 : decode cX0_leadOn 40 = .ok (.dup, 1) := by decide +kernel
theorem dX0_leadOn_41 : decode cX0_leadOn 41 = .ok (.getfield 74, 3) := by decide +kernel
theorem dX0_leadOn_44 : decode cX0_leadOn 44 = .ok (.iload_n 3, 1) := by decide +kernel
theorem dX0_leadOn_45 : decode cX0_leadOn 45 = .ok (.i2l, 1) := by decide +kernel
theorem dX0_leadOn_46 : decode cX0_leadOn 46 = .ok (.ladd, 1) := by decide +kernel
theorem dX0_leadOn_47 : decode cX0_leadOn 47 = .ok (.putfield 74, 3) := by decide +kernel
theorem dX0_leadOn_50 : decode cX0_leadOn 50 = .ok (.iconst 1, 1) := by decide +kernel
theorem dX0_leadOn_51 : decode cX0_leadOn 51 = .ok (.ireturn, 1) := by decide +kernel
theorem dX0_pass_0 : decode cX0_pass 0 = .ok (.aload_n 0, 1) := by decide +kernel
theorem dX0_pass_1 : decode cX0_pass 1 = .ok (.getfield 19, 3) := by decide +kernel
theorem dX0_pass_4 : decode cX0_pass 4 = .ok (.aload_n 0, 1) := by decide +kernel
theorem dX0_pass_5 : decode cX0_pass 5 = .ok (.getfield 23, 3) := by decide +kernel
theorem dX0_pass_8 : decode cX0_pass 8 = .ok (.invokevirtual 41, 3) := by decide +kernel
theorem dX0_pass_11 : decode cX0_pass 11 = .ok (.iload_n 1, 1) := by decide +kernel
theorem dX0_pass_12 : decode cX0_pass 12 = .ok (.if_icmp .eq 5, 3) := by decide +kernel
theorem dX0_pass_15 : decode cX0_pass 15 = .ok (.iconst 0, 1) := by decide +kernel
theorem dX0_pass_16 : decode cX0_pass 16 = .ok (.ireturn, 1) := by decide +kernel
theorem dX0_pass_17 : decode cX0_pass 17 = .ok (.aload_n 0, 1) := by decide +kernel
theorem dX0_pass_18 : decode cX0_pass 18 = .ok (.dup, 1) := by decide +kernel
theorem dX0_pass_19 : decode cX0_pass 19 = .ok (.getfield 23, 3) := by decide +kernel
theorem dX0_pass_22 : decode cX0_pass 22 = .ok (.iconst 1, 1) := by decide +kernel
theorem dX0_pass_23 : decode cX0_pass 23 = .ok (.iadd, 1) := by decide +kernel
theorem dX0_pass_24 : decode cX0_pass 24 = .ok (.putfield 23, 3) := by decide +kernel
theorem dX0_pass_27 : decode cX0_pass 27 = .ok (.iconst 1, 1) := by decide +kernel
theorem dX0_pass_28 : decode cX0_pass 28 = .ok (.ireturn, 1) := by decide +kernel
theorem dX1_init_0 : decode cX1_init 0 = .ok (.aload_n 0, 1) := by decide +kernel
theorem dX1_init_1 : decode cX1_init 1 = .ok (.invokespecial 3, 3) := by decide +kernel
theorem dX1_init_4 : decode cX1_init 4 = .ok (.aload_n 0, 1) := by decide +kernel
theorem dX1_init_5 : decode cX1_init 5 = .ok (.bipush 10, 2) := by decide +kernel
theorem dX1_init_7 : decode cX1_init 7 = .ok (.newarray .int, 2) := by decide +kernel
theorem dX1_init_9 : decode cX1_init 9 = .ok (.putfield 9, 3) := by decide +kernel
theorem dX1_init_12 : decode cX1_init 12 = .ok (.aload_n 0, 1) := by decide +kernel
theorem dX1_init_13 : decode cX1_init 13 = .ok (.bipush 10, 2) := by decide +kernel
theorem dX1_init_15 : decode cX1_init 15 = .ok (.newarray .int, 2) := by decide +kernel
theorem dX1_init_17 : decode cX1_init 17 = .ok (.putfield 15, 3) := by decide +kernel
theorem dX1_init_20 : decode cX1_init 20 = .ok (.aload_n 0, 1) := by decide +kernel
theorem dX1_init_21 : decode cX1_init 21 = .ok (.bipush 10, 2) := by decide +kernel
theorem dX1_init_23 : decode cX1_init 23 = .ok (.newarray .int, 2) := by decide +kernel
theorem dX1_init_25 : decode cX1_init 25 = .ok (.putfield 18, 3) := by decide +kernel
theorem dX1_init_28 : decode cX1_init 28 = .ok (.aload_n 0, 1) := by decide +kernel
theorem dX1_init_29 : decode cX1_init 29 = .ok (.bipush 10, 2) := by decide +kernel
theorem dX1_init_31 : decode cX1_init 31 = .ok (.newarray .int, 2) := by decide +kernel
theorem dX1_init_33 : decode cX1_init 33 = .ok (.putfield 21, 3) := by decide +kernel
theorem dX1_init_36 : decode cX1_init 36 = .ok (.aload_n 0, 1) := by decide +kernel
theorem dX1_init_37 : decode cX1_init 37 = .ok (.sipush 240, 3) := by decide +kernel
theorem dX1_init_40 : decode cX1_init 40 = .ok (.newarray .int, 2) := by decide +kernel
theorem dX1_init_42 : decode cX1_init 42 = .ok (.putfield 24, 3) := by decide +kernel
theorem dX1_init_45 : decode cX1_init 45 = .ok (.aload_n 0, 1) := by decide +kernel
theorem dX1_init_46 : decode cX1_init 46 = .ok (.bipush 32, 2) := by decide +kernel
theorem dX1_init_48 : decode cX1_init 48 = .ok (.newarray .int, 2) := by decide +kernel
theorem dX1_init_50 : decode cX1_init 50 = .ok (.putfield 27, 3) := by decide +kernel
theorem dX1_init_53 : decode cX1_init 53 = .ok (.return_, 1) := by decide +kernel
theorem dX1_makeEmpty_0 : decode cX1_makeEmpty 0 = .ok (.aload_n 0, 1) := by decide +kernel
theorem dX1_makeEmpty_1 : decode cX1_makeEmpty 1 = .ok (.iconst 0, 1) := by decide +kernel
theorem dX1_makeEmpty_2 : decode cX1_makeEmpty 2 = .ok (.putfield 30, 3) := by decide +kernel
theorem dX1_makeEmpty_5 : decode cX1_makeEmpty 5 = .ok (.aload_n 0, 1) := by decide +kernel
theorem dX1_makeEmpty_6 : decode cX1_makeEmpty 6 = .ok (.iconst 0, 1) := by decide +kernel
theorem dX1_makeEmpty_7 : decode cX1_makeEmpty 7 = .ok (.putfield 34, 3) := by decide +kernel
theorem dX1_makeEmpty_10 : decode cX1_makeEmpty 10 = .ok (.return_, 1) := by decide +kernel
theorem dX1_copyFrom_0 : decode cX1_copyFrom 0 = .ok (.aload_n 0, 1) := by decide +kernel
theorem dX1_copyFrom_1 : decode cX1_copyFrom 1 = .ok (.aload_n 1, 1) := by decide +kernel
theorem dX1_copyFrom_2 : decode cX1_copyFrom 2 = .ok (.getfield 30, 3) := by decide +kernel
theorem dX1_copyFrom_5 : decode cX1_copyFrom 5 = .ok (.putfield 30, 3) := by decide +kernel
theorem dX1_copyFrom_8 : decode cX1_copyFrom 8 = .ok (.aload_n 0, 1) := by decide +kernel
theorem dX1_copyFrom_9 : decode cX1_copyFrom 9 = .ok (.aload_n 1, 1) := by decide +kernel
theorem dX1_copyFrom_10 : decode cX1_copyFrom 10 = .ok (.getfield 34, 3) := by decide +kernel
theorem dX1_copyFrom_13 : decode cX1_copyFrom 13 = .ok (.putfield 34, 3) := by decide +kernel
theorem dX1_copyFrom_16 : decode cX1_copyFrom 16 = .ok (.aload_n 1, 1) := by decide +kernel
theorem dX1_copyFrom_17 : decode cX1_copyFrom 17 = .ok (.getfield 9, 3) := by decide +kernel
theorem dX1_copyFrom_20 : decode cX1_copyFrom 20 = .ok (.iconst 0, 1) := by decide +kernel
theorem dX1_copyFrom_21 : decode cX1_copyFrom 21 = .ok (.aload_n 0, 1) := by decide +kernel
theorem dX1_copyFrom_22 : decode cX1_copyFrom 22 = .ok (.getfield 9, 3) := by decide +kernel
theorem dX1_copyFrom_25 : decode cX1_copyFrom 25 = .ok (.iconst 0, 1) := by decide +kernel
theorem dX1_copyFrom_26 : decode cX1_copyFrom 26 = .ok (.bipush 10, 2) := by decide +kernel
theorem dX1_copyFrom_28 : decode cX1_copyFrom 28 = .ok (.invokestatic 37, 3) := by decide +kernel
theorem dX1_copyFrom_31 : decode cX1_copyFrom 31 = .ok (.aload_n 1, 1) := by decide +kernel
theorem dX1_copyFrom_32 : decode cX1_copyFrom 32 = .ok (.getfield 15, 3) := by decide +kernel
theorem dX1_copyFrom_35 : decode cX1_copyFrom 35 = .ok (.iconst 0, 1) := by decide +kernel
theorem dX1_copyFrom_36 : decode cX1_copyFrom 36 = .ok (.aload_n 0, 1) := by decide +kernel
theorem dX1_copyFrom_37 : decode cX1_copyFrom 37 = .ok (.getfield 15, 3) := by decide +kernel
theorem dX1_copyFrom_40 : decode cX1_copyFrom 40 = .ok (.iconst 0, 1) := by decide +kernel
theorem dX1_copyFrom_41 : decode cX1_copyFrom 41 = .ok (.bipush 10, 2) := by decide +kernel
theorem dX1_copyFrom_43 : decode cX1_copyFrom 43 = .ok (.invokestatic 37, 3) := by decide +kernel
theorem dX1_copyFrom_46 : decode cX1_copyFrom 46 = .ok (.aload_n 1, 1) := by decide +kernel
theorem dX1_copyFrom_47 : decode cX1_copyFrom 47 = .ok (.getfield 18, 3) := by decide +kernel
theorem dX1_copyFrom_50 : decode cX1_copyFrom 50 = .ok (.iconst 0, 1) := by decide +kernel
theorem dX1_copyFrom_51 : decode cX1_copyFrom 51 = .ok (.aload_n 0, 1) := by decide +kernel
theorem dX1_copyFrom_52 : decode cX1_copyFrom 52 = .ok (.getfield 18, 3) := by decide +kernel
theorem dX1_copyFrom_55 : decode cX1_copyFrom 55 = .ok (.iconst 0, 1) := by decide +kernel
theorem dX1_copyFrom_56 : decode cX1_copyFrom 56 = .ok (.bipush 10, 2) := by decide +kernel
theorem dX1_copyFrom_58 : decode cX1_copyFrom 58 = .ok (.invokestatic 37, 3) := by decide +kernel
theorem dX1_copyFrom_61 : decode cX1_copyFrom 61 = .ok (.aload_n 1, 1) := by decide +kernel
theorem dX1_copyFrom_62 : decode cX1_copyFrom 62 = .ok (.getfield 24, 3) := by decide +kernel
theorem dX1_copyFrom_65 : decode cX1_copyFrom 65 = .ok (.iconst 0, 1) := by decide +kernel
theorem dX1_copyFrom_66 : decode cX1_copyFrom 66 = .ok (.aload_n 0, 1) := by decide +kernel
theorem dX1_copyFrom_67 : decode cX1_copyFrom 67 = .ok (.getfield 24, 3) := by decide +kernel
theorem dX1_copyFrom_70 : decode cX1_copyFrom 70 = .ok (.iconst 0, 1) := by decide +kernel
theorem dX1_copyFrom_71 : decode cX1_copyFrom 71 = .ok (.sipush 240, 3) := by decide +kernel
theorem dX1_copyFrom_74 : decode cX1_copyFrom 74 = .ok (.invokestatic 37, 3) := by decide +kernel
theorem dX1_copyFrom_77 : decode cX1_copyFrom 77 = .ok (.return_, 1) := by decide +kernel
theorem dX1_rows_0 : decode cX1_rows 0 = .ok (.iconst 1, 1) := by decide +kernel
theorem dX1_rows_1 : decode cX1_rows 1 = .ok (.aload_n 0, 1) := by decide +kernel
theorem dX1_rows_2 : decode cX1_rows 2 = .ok (.getfield 30, 3) := by decide +kernel
theorem dX1_rows_5 : decode cX1_rows 5 = .ok (.ishl, 1) := by decide +kernel
theorem dX1_rows_6 : decode cX1_rows 6 = .ok (.ireturn, 1) := by decide +kernel
theorem dX1_emit_0 : decode cX1_emit 0 = .ok (.aload_n 0, 1) := by decide +kernel
theorem dX1_emit_1 : decode cX1_emit 1 = .ok (.getfield 34, 3) := by decide +kernel
theorem dX1_emit_4 : decode cX1_emit 4 = .ok (.aload_n 0, 1) := by decide +kernel
theorem dX1_emit_5 : decode cX1_emit 5 = .ok (.getfield 24, 3) := by decide +kernel
theorem dX1_emit_8 : decode cX1_emit 8 = .ok (.arraylength, 1) := by decide +kernel
theorem dX1_emit_9 : decode cX1_emit 9 = .ok (.if_icmp .ge 23, 3) := by decide +kernel
theorem dX1_emit_12 : decode cX1_emit 12 = .ok (.aload_n 0, 1) := by decide +kernel
theorem dX1_emit_13 : decode cX1_emit 13 = .ok (.getfield 24, 3) := by decide +kernel
theorem dX1_emit_16 : decode cX1_emit 16 = .ok (.aload_n 0, 1) := by decide +kernel
theorem dX1_emit_17 : decode cX1_emit 17 = .ok (.getfield 34, 3) := by decide +kernel
theorem dX1_emit_20 : decode cX1_emit 20 = .ok (.iload_n 1, 1) := by decide +kernel
theorem dX1_emit_21 : decode cX1_emit 21 = .ok (.iastore, 1) := by decide +kernel
theorem dX1_emit_22 : decode cX1_emit 22 = .ok (.aload_n 0, 1) := by decide +kernel
theorem dX1_emit_23 : decode cX1_emit 23 = .ok (.dup, 1) := by decide +kernel
theorem dX1_emit_24 : decode cX1_emit 24 = .ok (.getfield 34, 3) := by decide +kernel
theorem dX1_emit_27 : decode cX1_emit 27 = .ok (.iconst 1, 1) := by decide +kernel
theorem dX1_emit_28 : decode cX1_emit 28 = .ok (.iadd, 1) := by decide +kernel
theorem dX1_emit_29 : decode cX1_emit 29 = .ok (.putfield 34, 3) := by decide +kernel
theorem dX1_emit_32 : decode cX1_emit 32 = .ok (.return_, 1) := by decide +kernel
theorem dX1_emitComparison_0 : decode cX1_emitComparison 0 = .ok (.iload_n 3, 1) := by decide +kernel
theorem dX1_emitComparison_1 : decode cX1_emitComparison 1 = .ok (.bipush 61, 2) := by decide +kernel
theorem dX1_emitComparison_3 : decode cX1_emitComparison 3 = .ok (.if_icmp .eq 9, 3) := by decide +kernel
theorem dX1_emitComparison_6 : decode cX1_emitComparison 6 = .ok (.iload_n 3, 1) := by decide +kernel
theorem dX1_emitComparison_7 : decode cX1_emitComparison 7 = .ok (.bipush 35, 2) := by decide +kernel
theorem dX1_emitComparison_9 : decode cX1_emitComparison 9 = .ok (.if_icmp .ne 7, 3) := by decide +kernel
theorem dX1_emitComparison_12 : decode cX1_emitComparison 12 = .ok (.iconst 1, 1) := by decide +kernel
theorem dX1_emitComparison_13 : decode cX1_emitComparison 13 = .ok (.goto 4, 3) := by decide +kernel
theorem dX1_emitComparison_16 : decode cX1_emitComparison 16 = .ok (.iconst 0, 1) := by decide +kernel
theorem dX1_emitComparison_17 : decode cX1_emitComparison 17 = .ok (.istore 5, 2) := by decide +kernel
theorem dX1_emitComparison_19 : decode cX1_emitComparison 19 = .ok (.iload 5, 2) := by decide +kernel
theorem dX1_emitComparison_21 : decode cX1_emitComparison 21 = .ok (.ifCond .ne 16, 3) := by decide +kernel
theorem dX1_emitComparison_24 : decode cX1_emitComparison 24 = .ok (.iload_n 3, 1) := by decide +kernel
theorem dX1_emitComparison_25 : decode cX1_emitComparison 25 = .ok (.sipush 256, 3) := by decide +kernel
theorem dX1_emitComparison_28 : decode cX1_emitComparison 28 = .ok (.if_icmp .eq 9, 3) := by decide +kernel
theorem dX1_emitComparison_31 : decode cX1_emitComparison 31 = .ok (.iload_n 3, 1) := by decide +kernel
theorem dX1_emitComparison_32 : decode cX1_emitComparison 32 = .ok (.bipush 62, 2) := by decide +kernel
theorem dX1_emitComparison_34 : decode cX1_emitComparison 34 = .ok (.if_icmp .ne 16, 3) := by decide +kernel
theorem dX1_emitComparison_37 : decode cX1_emitComparison 37 = .ok (.aload_n 0, 1) := by decide +kernel
theorem dX1_emitComparison_38 : decode cX1_emitComparison 38 = .ok (.iload_n 1, 1) := by decide +kernel
theorem dX1_emitComparison_39 : decode cX1_emitComparison 39 = .ok (.iload_n 2, 1) := by decide +kernel
theorem dX1_emitComparison_40 : decode cX1_emitComparison 40 = .ok (.iload 4, 2) := by decide +kernel
theorem dX1_emitComparison_42 : decode cX1_emitComparison 42 = .ok (.invokevirtual 43, 3) := by decide +kernel
theorem dX1_emitComparison_45 : decode cX1_emitComparison 45 = .ok (.ifCond .ne 5, 3) := by decide +kernel
theorem dX1_emitComparison_48 : decode cX1_emitComparison 48 = .ok (.iconst 0, 1) := by decide +kernel
theorem dX1_emitComparison_49 : decode cX1_emitComparison 49 = .ok (.ireturn, 1) := by decide +kernel
theorem dX1_emitComparison_50 : decode cX1_emitComparison 50 = .ok (.iload 5, 2) := by decide +kernel
theorem dX1_emitComparison_52 : decode cX1_emitComparison 52 = .ok (.ifCond .ne 16, 3) := by decide +kernel
theorem dX1_emitComparison_55 : decode cX1_emitComparison 55 = .ok (.iload_n 3, 1) := by decide +kernel
theorem dX1_emitComparison_56 : decode cX1_emitComparison 56 = .ok (.bipush 60, 2) := by decide +kernel
theorem dX1_emitComparison_58 : decode cX1_emitComparison 58 = .ok (.if_icmp .eq 10, 3) := by decide +kernel
theorem dX1_emitComparison_61 : decode cX1_emitComparison 61 = .ok (.iload_n 3, 1) := by decide +kernel
theorem dX1_emitComparison_62 : decode cX1_emitComparison 62 = .ok (.sipush 257, 3) := by decide +kernel
theorem dX1_emitComparison_65 : decode cX1_emitComparison 65 = .ok (.if_icmp .ne 18, 3) := by decide +kernel
theorem dX1_emitComparison_68 : decode cX1_emitComparison 68 = .ok (.aload_n 0, 1) := by decide +kernel
theorem dX1_emitComparison_69 : decode cX1_emitComparison 69 = .ok (.iload_n 1, 1) := by decide +kernel
theorem dX1_emitComparison_70 : decode cX1_emitComparison 70 = .ok (.iload_n 2, 1) := by decide +kernel
theorem dX1_emitComparison_71 : decode cX1_emitComparison 71 = .ok (.iload 4, 2) := by decide +kernel
theorem dX1_emitComparison_73 : decode cX1_emitComparison 73 = .ok (.iconst 1, 1) := by decide +kernel
theorem dX1_emitComparison_74 : decode cX1_emitComparison 74 = .ok (.isub, 1) := by decide +kernel
theorem dX1_emitComparison_75 : decode cX1_emitComparison 75 = .ok (.invokevirtual 43, 3) := by decide +kernel
theorem dX1_emitComparison_78 : decode cX1_emitComparison 78 = .ok (.ifCond .ne 5, 3) := by decide +kernel
theorem dX1_emitComparison_81 : decode cX1_emitComparison 81 = .ok (.iconst 0, 1) := by decide +kernel
theorem dX1_emitComparison_82 : decode cX1_emitComparison 82 = .ok (.ireturn, 1) := by decide +kernel
theorem dX1_emitComparison_83 : decode cX1_emitComparison 83 = .ok (.iload 5, 2) := by decide +kernel
theorem dX1_emitComparison_85 : decode cX1_emitComparison 85 = .ok (.ifCond .eq 15, 3) := by decide +kernel
theorem dX1_emitComparison_88 : decode cX1_emitComparison 88 = .ok (.aload_n 0, 1) := by decide +kernel
theorem dX1_emitComparison_89 : decode cX1_emitComparison 89 = .ok (.bipush 12, 2) := by decide +kernel
theorem dX1_emitComparison_91 : decode cX1_emitComparison 91 = .ok (.invokevirtual 47, 3) := by decide +kernel
theorem dX1_emitComparison_94 : decode cX1_emitComparison 94 = .ok (.aload_n 0, 1) := by decide +kernel
theorem dX1_emitComparison_95 : decode cX1_emitComparison 95 = .ok (.bipush 13, 2) := by decide +kernel
theorem dX1_emitComparison_97 : decode cX1_emitComparison 97 = .ok (.invokevirtual 47, 3) := by decide +kernel
theorem dX1_emitComparison_100 : decode cX1_emitComparison 100 = .ok (.iload_n 3, 1) := by decide +kernel
theorem dX1_emitComparison_101 : decode cX1_emitComparison 101 = .ok (.bipush 62, 2) := by decide +kernel
theorem dX1_emitComparison_103 : decode cX1_emitComparison 103 = .ok (.if_icmp .eq 16, 3) := by decide +kernel
theorem dX1_emitComparison_106 : decode cX1_emitComparison 106 = .ok (.iload_n 3, 1) := by decide +kernel
theorem dX1_emitComparison_107 : decode cX1_emitComparison 107 = .ok (.sipush 257, 3) := by decide +kernel
theorem dX1_emitComparison_110 : decode cX1_emitComparison 110 = .ok (.if_icmp .eq 9, 3) := by decide +kernel
theorem dX1_emitComparison_113 : decode cX1_emitComparison 113 = .ok (.iload_n 3, 1) := by decide +kernel
theorem dX1_emitComparison_114 : decode cX1_emitComparison 114 = .ok (.bipush 35, 2) := by decide +kernel
theorem dX1_emitComparison_116 : decode cX1_emitComparison 116 = .ok (.if_icmp .ne 9, 3) := by decide +kernel
theorem dX1_emitComparison_119 : decode cX1_emitComparison 119 = .ok (.aload_n 0, 1) := by decide +kernel
theorem dX1_emitComparison_120 : decode cX1_emitComparison 120 = .ok (.bipush 12, 2) := by decide +kernel
theorem dX1_emitComparison_122 : decode cX1_emitComparison 122 = .ok (.invokevirtual 47, 3) := by decide +kernel
theorem dX1_emitComparison_125 : decode cX1_emitComparison 125 = .ok (.iconst 1, 1) := by decide +kernel
theorem dX1_emitComparison_126 : decode cX1_emitComparison 126 = .ok (.ireturn, 1) := by decide +kernel
theorem dX1_emitAtMost_0 : decode cX1_emitAtMost 0 = .ok (.iload_n 1, 1) := by decide +kernel
theorem dX1_emitAtMost_1 : decode cX1_emitAtMost 1 = .ok (.iload_n 2, 1) := by decide +kernel
theorem dX1_emitAtMost_2 : decode cX1_emitAtMost 2 = .ok (.if_icmp .ne 21, 3) := by decide +kernel
theorem dX1_emitAtMost_5 : decode cX1_emitAtMost 5 = .ok (.aload_n 0, 1) := by decide +kernel
theorem dX1_emitAtMost_6 : decode cX1_emitAtMost 6 = .ok (.iconst 0, 1) := by decide +kernel
theorem dX1_emitAtMost_7 : decode cX1_emitAtMost 7 = .ok (.iload_n 3, 1) := by decide +kernel
theorem dX1_emitAtMost_8 : decode cX1_emitAtMost 8 = .ok (.if_icmp .gt 8, 3) := by decide +kernel
theorem dX1_emitAtMost_11 : decode cX1_emitAtMost 11 = .ok (.bipush 11, 2) := by decide +kernel
theorem dX1_emitAtMost_13 : decode cX1_emitAtMost 13 = .ok (.goto 5, 3) := by decide +kernel
theorem dX1_emitAtMost_16 : decode cX1_emitAtMost 16 = .ok (.bipush 10, 2) := by decide +kernel
theorem dX1_emitAtMost_18 : decode cX1_emitAtMost 18 = .ok (.invokevirtual 47, 3) := by decide +kernel
theorem dX1_emitAtMost_21 : decode cX1_emitAtMost 21 = .ok (.iconst 1, 1) := by decide +kernel
theorem dX1_emitAtMost_22 : decode cX1_emitAtMost 22 = .ok (.ireturn, 1) := by decide +kernel
theorem dX1_emitAtMost_23 : decode cX1_emitAtMost 23 = .ok (.iload_n 1, 1) := by decide +kernel
theorem dX1_emitAtMost_24 : decode cX1_emitAtMost 24 = .ok (.iload_n 2, 1) := by decide +kernel
theorem dX1_emitAtMost_25 : decode cX1_emitAtMost 25 = .ok (.if_icmp .ge 13, 3) := by decide +kernel
theorem dX1_emitAtMost_28 : decode cX1_emitAtMost 28 = .ok (.aload_n 0, 1) := by decide +kernel
theorem dX1_emitAtMost_29 : decode cX1_emitAtMost 29 = .ok (.iload_n 1, 1) := by decide +kernel
theorem dX1_emitAtMost_30 : decode cX1_emitAtMost 30 = .ok (.iload_n 2, 1) := by decide +kernel
theorem dX1_emitAtMost_31 : decode cX1_emitAtMost 31 = .ok (.iload_n 3, 1) := by decide +kernel
theorem dX1_emitAtMost_32 : decode cX1_emitAtMost 32 = .ok (.invokevirtual 51, 3) := by decide +kernel
theorem dX1_emitAtMost_35 : decode cX1_emitAtMost 35 = .ok (.goto 13, 3) := by decide +kernel
theorem dX1_emitAtMost_38 : decode cX1_emitAtMost 38 = .ok (.aload_n 0, 1) := by decide +kernel
theorem dX1_emitAtMost_39 : decode cX1_emitAtMost 39 = .ok (.iload_n 2, 1) := by decide +kernel
theorem dX1_emitAtMost_40 : decode cX1_emitAtMost 40 = .ok (.iload_n 1, 1) := by decide +kernel
theorem dX1_emitAtMost_41 : decode cX1_emitAtMost 41 = .ok (.iload_n 3, 1) := by decide +kernel
theorem dX1_emitAtMost_42 : decode cX1_emitAtMost 42 = .ok (.ineg, 1) := by decide +kernel
theorem dX1_emitAtMost_43 : decode cX1_emitAtMost 43 = .ok (.iconst 1, 1) := by decide +kernel
theorem dX1_emitAtMost_44 : decode cX1_emitAtMost 44 = .ok (.isub, 1) := by decide +kernel
theorem dX1_emitAtMost_45 : decode cX1_emitAtMost 45 = .ok (.invokevirtual 51, 3) := by decide +kernel
theorem dX1_emitAtMost_48 : decode cX1_emitAtMost 48 = .ok (.istore 4, 2) := by decide +kernel
theorem dX1_emitAtMost_50 : decode cX1_emitAtMost 50 = .ok (.iload 4, 2) := by decide +kernel
theorem dX1_emitAtMost_52 : decode cX1_emitAtMost 52 = .ok (.iconst (-1), 1) := by decide +kernel
theorem dX1_emitAtMost_53 : decode cX1_emitAtMost 53 = .ok (.if_icmp .ne 5, 3) := by decide +kernel
theorem dX1_emitAtMost_56 : decode cX1_emitAtMost 56 = .ok (.iconst 0, 1) := by decide +kernel
theorem dX1_emitAtMost_57 : decode cX1_emitAtMost 57 = .ok (.ireturn, 1) := by decide +kernel
theorem dX1_emitAtMost_58 : decode cX1_emitAtMost 58 = .ok (.aload_n 0, 1) := by decide +kernel
theorem dX1_emitAtMost_59 : decode cX1_emitAtMost 59 = .ok (.iload 4, 2) := by decide +kernel
theorem dX1_emitAtMost_61 : decode cX1_emitAtMost 61 = .ok (.invokevirtual 47, 3) := by decide +kernel
theorem dX1_emitAtMost_64 : decode cX1_emitAtMost 64 = .ok (.iload_n 1, 1) := by decide +kernel
theorem dX1_emitAtMost_65 : decode cX1_emitAtMost 65 = .ok (.iload_n 2, 1) := by decide +kernel
theorem dX1_emitAtMost_66 : decode cX1_emitAtMost 66 = .ok (.if_icmp .le 9, 3) := by decide +kernel
theorem dX1_emitAtMost_69 : decode cX1_emitAtMost 69 = .ok (.aload_n 0, 1) := by decide +kernel
theorem dX1_emitAtMost_70 : decode cX1_emitAtMost 70 = .ok (.bipush 12, 2) := by decide +kernel
theorem dX1_emitAtMost_72 : decode cX1_emitAtMost 72 = .ok (.invokevirtual 47, 3) := by decide +kernel
theorem dX1_emitAtMost_75 : decode cX1_emitAtMost 75 = .ok (.iconst 1, 1) := by decide +kernel
theorem dX1_emitAtMost_76 : decode cX1_emitAtMost 76 = .ok (.ireturn, 1) := by decide +kernel
theorem dX1_numberOf_0 : decode cX1_numberOf 0 = .ok (.iconst 0, 1) := by decide +kernel
theorem dX1_numberOf_1 : decode cX1_numberOf 1 = .ok (.istore 4, 2) := by decide +kernel
theorem dX1_numberOf_3 : decode cX1_numberOf 3 = .ok (.iload 4, 2) := by decide +kernel
theorem dX1_numberOf_5 : decode cX1_numberOf 5 = .ok (.aload_n 0, 1) := by decide +kernel
theorem dX1_numberOf_6 : decode cX1_numberOf 6 = .ok (.getfield 30, 3) := by decide +kernel
theorem dX1_numberOf_9 : decode cX1_numberOf 9 = .ok (.if_icmp .ge 45, 3) := by decide +kernel
theorem dX1_numberOf_12 : decode cX1_numberOf 12 = .ok (.aload_n 0, 1) := by decide +kernel
theorem dX1_numberOf_13 : decode cX1_numberOf 13 = .ok (.getfield 9, 3) := by decide +kernel
theorem dX1_numberOf_16 : decode cX1_numberOf 16 = .ok (.iload 4, 2) := by decide +kernel
theorem dX1_numberOf_18 : decode cX1_numberOf 18 = .ok (.iaload, 1) := by decide +kernel
theorem dX1_numberOf_19 : decode cX1_numberOf 19 = .ok (.iload_n 1, 1) := by decide +kernel
theorem dX1_numberOf_20 : decode cX1_numberOf 20 = .ok (.if_icmp .ne 28, 3) := by decide +kernel
theorem dX1_numberOf_23 : decode cX1_numberOf 23 = .ok (.aload_n 0, 1) := by decide +kernel
theorem dX1_numberOf_24 : decode cX1_numberOf 24 = .ok (.getfield 15, 3) := by decide +kernel
theorem dX1_numberOf_27 : decode cX1_numberOf 27 = .ok (.iload 4, 2) := by decide +kernel
theorem dX1_numberOf_29 : decode cX1_numberOf 29 = .ok (.iaload, 1) := by decide +kernel
theorem dX1_numberOf_30 : decode cX1_numberOf 30 = .ok (.iload_n 2, 1) := by decide +kernel
theorem dX1_numberOf_31 : decode cX1_numberOf 31 = .ok (.if_icmp .ne 17, 3) := by decide +kernel
theorem dX1_numberOf_34 : decode cX1_numberOf 34 = .ok (.aload_n 0, 1) := by decide +kernel
theorem dX1_numberOf_35 : decode cX1_numberOf 35 = .ok (.getfield 18, 3) := by decide +kernel
theorem dX1_numberOf_38 : decode cX1_numberOf 38 = .ok (.iload 4, 2) := by decide +kernel
theorem dX1_numberOf_40 : decode cX1_numberOf 40 = .ok (.iaload, 1) := by decide +kernel
theorem dX1_numberOf_41 : decode cX1_numberOf 41 = .ok (.iload_n 3, 1) := by decide +kernel
theorem dX1_numberOf_42 : decode cX1_numberOf 42 = .ok (.if_icmp .ne 6, 3) := by decide +kernel
theorem dX1_numberOf_45 : decode cX1_numberOf 45 = .ok (.iload 4, 2) := by decide +kernel
theorem dX1_numberOf_47 : decode cX1_numberOf 47 = .ok (.ireturn, 1) := by decide +kernel
theorem dX1_numberOf_48 : decode cX1_numberOf 48 = .ok (.iinc 4 1, 3) := by decide +kernel
theorem dX1_numberOf_51 : decode cX1_numberOf 51 = .ok (.goto (-48), 3) := by decide +kernel
theorem dX1_numberOf_54 : decode cX1_numberOf 54 = .ok (.aload_n 0, 1) := by decide +kernel
theorem dX1_numberOf_55 : decode cX1_numberOf 55 = .ok (.getfield 30, 3) := by decide +kernel
theorem dX1_numberOf_58 : decode cX1_numberOf 58 = .ok (.bipush 10, 2) := by decide +kernel
theorem dX1_numberOf_60 : decode cX1_numberOf 60 = .ok (.if_icmp .lt 5, 3) := by decide +kernel
theorem dX1_numberOf_63 : decode cX1_numberOf 63 = .ok (.iconst (-1), 1) := by decide +kernel
theorem dX1_numberOf_64 : decode cX1_numberOf 64 = .ok (.ireturn, 1) := by decide +kernel
theorem dX1_numberOf_65 : decode cX1_numberOf 65 = .ok (.aload_n 0, 1) := by decide +kernel
theorem dX1_numberOf_66 : decode cX1_numberOf 66 = .ok (.getfield 9, 3) := by decide +kernel
theorem dX1_numberOf_69 : decode cX1_numberOf 69 = .ok (.aload_n 0, 1) := by decide +kernel
theorem dX1_numberOf_70 : decode cX1_numberOf 70 = .ok (.getfield 30, 3) := by decide +kernel
theorem dX1_numberOf_73 : decode cX1_numberOf 73 = .ok (.iload_n 1, 1) := by decide +kernel
theorem dX1_numberOf_74 : decode cX1_numberOf 74 = .ok (.iastore, 1) := by decide +kernel
theorem dX1_numberOf_75 : decode cX1_numberOf 75 = .ok (.aload_n 0, 1) := by decide +kernel
theorem dX1_numberOf_76 : decode cX1_numberOf 76 = .ok (.getfield 15, 3) := by decide +kernel
theorem dX1_numberOf_79 : decode cX1_numberOf 79 = .ok (.aload_n 0, 1) := by decide +kernel
theorem dX1_numberOf_80 : decode cX1_numberOf 80 = .ok (.getfield 30, 3) := by decide +kernel
theorem dX1_numberOf_83 : decode cX1_numberOf 83 = .ok (.iload_n 2, 1) := by decide +kernel
theorem dX1_numberOf_84 : decode cX1_numberOf 84 = .ok (.iastore, 1) := by decide +kernel
theorem dX1_numberOf_85 : decode cX1_numberOf 85 = .ok (.aload_n 0, 1) := by decide +kernel
theorem dX1_numberOf_86 : decode cX1_numberOf 86 = .ok (.getfield 18, 3) := by decide +kernel
theorem dX1_numberOf_89 : decode cX1_numberOf 89 = .ok (.aload_n 0, 1) := by decide +kernel
theorem dX1_numberOf_90 : decode cX1_numberOf 90 = .ok (.getfield 30, 3) := by decide +kernel
theorem dX1_numberOf_93 : decode cX1_numberOf 93 = .ok (.iload_n 3, 1) := by decide +kernel
theorem dX1_numberOf_94 : decode cX1_numberOf 94 = .ok (.iastore, 1) := by decide +kernel
theorem dX1_numberOf_95 : decode cX1_numberOf 95 = .ok (.aload_n 0, 1) := by decide +kernel
theorem dX1_numberOf_96 : decode cX1_numberOf 96 = .ok (.dup, 1) := by decide +kernel
theorem dX1_numberOf_97 : decode cX1_numberOf 97 = .ok (.getfield 30, 3) := by decide +kernel
theorem dX1_numberOf_100 : decode cX1_numberOf 100 = .ok (.iconst 1, 1) := by decide +kernel
theorem dX1_numberOf_101 : decode cX1_numberOf 101 = .ok (.iadd, 1) := by decide +kernel
theorem dX1_numberOf_102 : decode cX1_numberOf 102 = .ok (.putfield 30, 3) := by decide +kernel
theorem dX1_numberOf_105 : decode cX1_numberOf 105 = .ok (.aload_n 0, 1) := by decide +kernel
theorem dX1_numberOf_106 : decode cX1_numberOf 106 = .ok (.getfield 30, 3) := by decide +kernel
theorem dX1_numberOf_109 : decode cX1_numberOf 109 = .ok (.iconst 1, 1) := by decide +kernel
theorem dX1_numberOf_110 : decode cX1_numberOf 110 = .ok (.isub, 1) := by decide +kernel
theorem dX1_numberOf_111 : decode cX1_numberOf 111 = .ok (.ireturn, 1) := by decide +kernel
theorem dX1_giveNothing_0 : decode cX1_giveNothing 0 = .ok (.aload_n 0, 1) := by decide +kernel
theorem dX1_giveNothing_1 : decode cX1_giveNothing 1 = .ok (.getfield 21, 3) := by decide +kernel
theorem dX1_giveNothing_4 : decode cX1_giveNothing 4 = .ok (.iconst 1, 1) := by decide +kernel
theorem dX1_giveNothing_5 : decode cX1_giveNothing 5 = .ok (.invokestatic 55, 3) := by decide +kernel
theorem dX1_giveNothing_8 : decode cX1_giveNothing 8 = .ok (.return_, 1) := by decide +kernel
theorem dX1_giveRow_0 : decode cX1_giveRow 0 = .ok (.iconst 0, 1) := by decide +kernel
theorem dX1_giveRow_1 : decode cX1_giveRow 1 = .ok (.istore_n 2, 1) := by decide +kernel
theorem dX1_giveRow_2 : decode cX1_giveRow 2 = .ok (.iload_n 2, 1) := by decide +kernel
theorem dX1_giveRow_3 : decode cX1_giveRow 3 = .ok (.aload_n 0, 1) := by decide +kernel
theorem dX1_giveRow_4 : decode cX1_giveRow 4 = .ok (.getfield 30, 3) := by decide +kernel
theorem dX1_giveRow_7 : decode cX1_giveRow 7 = .ok (.if_icmp .ge 36, 3) := by decide +kernel
theorem dX1_giveRow_10 : decode cX1_giveRow 10 = .ok (.aload_n 0, 1) := by decide +kernel
theorem dX1_giveRow_11 : decode cX1_giveRow 11 = .ok (.getfield 21, 3) := by decide +kernel
theorem dX1_giveRow_14 : decode cX1_giveRow 14 = .ok (.iload_n 2, 1) := by decide +kernel
theorem dX1_giveRow_15 : decode cX1_giveRow 15 = .ok (.iload_n 1, 1) := by decide +kernel
theorem dX1_giveRow_16 : decode cX1_giveRow 16 = .ok (.aload_n 0, 1) := by decide +kernel
theorem dX1_giveRow_17 : decode cX1_giveRow 17 = .ok (.getfield 30, 3) := by decide +kernel
theorem dX1_giveRow_20 : decode cX1_giveRow 20 = .ok (.iconst 1, 1) := by decide +kernel
theorem dX1_giveRow_21 : decode cX1_giveRow 21 = .ok (.isub, 1) := by decide +kernel
theorem dX1_giveRow_22 : decode cX1_giveRow 22 = .ok (.iload_n 2, 1) := by decide +kernel
theorem dX1_giveRow_23 : decode cX1_giveRow 23 = .ok (.isub, 1) := by decide +kernel
theorem dX1_giveRow_24 : decode cX1_giveRow 24 = .ok (.ishr, 1) := by decide +kernel
theorem dX1_giveRow_25 : decode cX1_giveRow 25 = .ok (.iconst 1, 1) := by decide +kernel
theorem dX1_giveRow_26 : decode cX1_giveRow 26 = .ok (.iand, 1) := by decide +kernel
theorem dX1_giveRow_27 : decode cX1_giveRow 27 = .ok (.iconst 1, 1) := by decide +kernel
theorem dX1_giveRow_28 : decode cX1_giveRow 28 = .ok (.if_icmp .ne 7, 3) := by decide +kernel
theorem dX1_giveRow_31 : decode cX1_giveRow 31 = .ok (.iconst 2, 1) := by decide +kernel
theorem dX1_giveRow_32 : decode cX1_giveRow 32 = .ok (.goto 4, 3) := by decide +kernel
theorem dX1_giveRow_35 : decode cX1_giveRow 35 = .ok (.iconst 0, 1) := by decide +kernel
theorem dX1_giveRow_36 : decode cX1_giveRow 36 = .ok (.iastore, 1) := by decide +kernel
theorem dX1_giveRow_37 : decode cX1_giveRow 37 = .ok (.iinc 2 1, 3) := by decide +kernel
theorem dX1_giveRow_40 : decode cX1_giveRow 40 = .ok (.goto (-38), 3) := by decide +kernel
theorem dX1_giveRow_43 : decode cX1_giveRow 43 = .ok (.return_, 1) := by decide +kernel
theorem dX1_fromOf_0 : decode cX1_fromOf 0 = .ok (.aload_n 0, 1) := by decide +kernel
theorem dX1_fromOf_1 : decode cX1_fromOf 1 = .ok (.getfield 21, 3) := by decide +kernel
theorem dX1_fromOf_4 : decode cX1_fromOf 4 = .ok (.iload_n 1, 1) := by decide +kernel
theorem dX1_fromOf_5 : decode cX1_fromOf 5 = .ok (.iaload, 1) := by decide +kernel
theorem dX1_fromOf_6 : decode cX1_fromOf 6 = .ok (.iconst 2, 1) := by decide +kernel
theorem dX1_fromOf_7 : decode cX1_fromOf 7 = .ok (.if_icmp .ne 12, 3) := by decide +kernel
theorem dX1_fromOf_10 : decode cX1_fromOf 10 = .ok (.aload_n 0, 1) := by decide +kernel
theorem dX1_fromOf_11 : decode cX1_fromOf 11 = .ok (.getfield 9, 3) := by decide +kernel
theorem dX1_fromOf_14 : decode cX1_fromOf 14 = .ok (.iload_n 1, 1) := by decide +kernel
theorem dX1_fromOf_15 : decode cX1_fromOf 15 = .ok (.iaload, 1) := by decide +kernel
theorem dX1_fromOf_16 : decode cX1_fromOf 16 = .ok (.goto 9, 3) := by decide +kernel
theorem dX1_fromOf_19 : decode cX1_fromOf 19 = .ok (.aload_n 0, 1) := by decide +kernel
theorem dX1_fromOf_20 : decode cX1_fromOf 20 = .ok (.getfield 15, 3) := by decide +kernel
theorem dX1_fromOf_23 : decode cX1_fromOf 23 = .ok (.iload_n 1, 1) := by decide +kernel
theorem dX1_fromOf_24 : decode cX1_fromOf 24 = .ok (.iaload, 1) := by decide +kernel
theorem dX1_fromOf_25 : decode cX1_fromOf 25 = .ok (.ireturn, 1) := by decide +kernel
theorem dX1_toOf_0 : decode cX1_toOf 0 = .ok (.aload_n 0, 1) := by decide +kernel
theorem dX1_toOf_1 : decode cX1_toOf 1 = .ok (.getfield 21, 3) := by decide +kernel
theorem dX1_toOf_4 : decode cX1_toOf 4 = .ok (.iload_n 1, 1) := by decide +kernel
theorem dX1_toOf_5 : decode cX1_toOf 5 = .ok (.iaload, 1) := by decide +kernel
theorem dX1_toOf_6 : decode cX1_toOf 6 = .ok (.iconst 2, 1) := by decide +kernel
theorem dX1_toOf_7 : decode cX1_toOf 7 = .ok (.if_icmp .ne 12, 3) := by decide +kernel
theorem dX1_toOf_10 : decode cX1_toOf 10 = .ok (.aload_n 0, 1) := by decide +kernel
theorem dX1_toOf_11 : decode cX1_toOf 11 = .ok (.getfield 15, 3) := by decide +kernel
theorem dX1_toOf_14 : decode cX1_toOf 14 = .ok (.iload_n 1, 1) := by decide +kernel
theorem dX1_toOf_15 : decode cX1_toOf 15 = .ok (.iaload, 1) := by decide +kernel
theorem dX1_toOf_16 : decode cX1_toOf 16 = .ok (.goto 9, 3) := by decide +kernel
theorem dX1_toOf_19 : decode cX1_toOf 19 = .ok (.aload_n 0, 1) := by decide +kernel
theorem dX1_toOf_20 : decode cX1_toOf 20 = .ok (.getfield 9, 3) := by decide +kernel
theorem dX1_toOf_23 : decode cX1_toOf 23 = .ok (.iload_n 1, 1) := by decide +kernel
theorem dX1_toOf_24 : decode cX1_toOf 24 = .ok (.iaload, 1) := by decide +kernel
theorem dX1_toOf_25 : decode cX1_toOf 25 = .ok (.ireturn, 1) := by decide +kernel
theorem dX1_mostOf_0 : decode cX1_mostOf 0 = .ok (.aload_n 0, 1) := by decide +kernel
theorem dX1_mostOf_1 : decode cX1_mostOf 1 = .ok (.getfield 21, 3) := by decide +kernel
theorem dX1_mostOf_4 : decode cX1_mostOf 4 = .ok (.iload_n 1, 1) := by decide +kernel
theorem dX1_mostOf_5 : decode cX1_mostOf 5 = .ok (.iaload, 1) := by decide +kernel
theorem dX1_mostOf_6 : decode cX1_mostOf 6 = .ok (.iconst 2, 1) := by decide +kernel
theorem dX1_mostOf_7 : decode cX1_mostOf 7 = .ok (.if_icmp .ne 12, 3) := by decide +kernel
theorem dX1_mostOf_10 : decode cX1_mostOf 10 = .ok (.aload_n 0, 1) := by decide +kernel
theorem dX1_mostOf_11 : decode cX1_mostOf 11 = .ok (.getfield 18, 3) := by decide +kernel
theorem dX1_mostOf_14 : decode cX1_mostOf 14 = .ok (.iload_n 1, 1) := by decide +kernel
theorem dX1_mostOf_15 : decode cX1_mostOf 15 = .ok (.iaload, 1) := by decide +kernel
theorem dX1_mostOf_16 : decode cX1_mostOf 16 = .ok (.goto 12, 3) := by decide +kernel
theorem dX1_mostOf_19 : decode cX1_mostOf 19 = .ok (.aload_n 0, 1) := by decide +kernel
theorem dX1_mostOf_20 : decode cX1_mostOf 20 = .ok (.getfield 18, 3) := by decide +kernel
theorem dX1_mostOf_23 : decode cX1_mostOf 23 = .ok (.iload_n 1, 1) := by decide +kernel
theorem dX1_mostOf_24 : decode cX1_mostOf 24 = .ok (.iaload, 1) := by decide +kernel
theorem dX1_mostOf_25 : decode cX1_mostOf 25 = .ok (.ineg, 1) := by decide +kernel
theorem dX1_mostOf_26 : decode cX1_mostOf 26 = .ok (.iconst 1, 1) := by decide +kernel
theorem dX1_mostOf_27 : decode cX1_mostOf 27 = .ok (.isub, 1) := by decide +kernel
theorem dX1_mostOf_28 : decode cX1_mostOf 28 = .ok (.ireturn, 1) := by decide +kernel
theorem dX1_joins_0 : decode cX1_joins 0 = .ok (.aload_n 1, 1) := by decide +kernel
theorem dX1_joins_1 : decode cX1_joins 1 = .ok (.aload_n 0, 1) := by decide +kernel
theorem dX1_joins_2 : decode cX1_joins 2 = .ok (.iload_n 2, 1) := by decide +kernel
theorem dX1_joins_3 : decode cX1_joins 3 = .ok (.invokevirtual 61, 3) := by decide +kernel
theorem dX1_joins_6 : decode cX1_joins 6 = .ok (.aload_n 0, 1) := by decide +kernel
theorem dX1_joins_7 : decode cX1_joins 7 = .ok (.iload_n 2, 1) := by decide +kernel
theorem dX1_joins_8 : decode cX1_joins 8 = .ok (.invokevirtual 65, 3) := by decide +kernel
theorem dX1_joins_11 : decode cX1_joins 11 = .ok (.aload_n 0, 1) := by decide +kernel
theorem dX1_joins_12 : decode cX1_joins 12 = .ok (.iload_n 2, 1) := by decide +kernel
theorem dX1_joins_13 : decode cX1_joins 13 = .ok (.invokevirtual 68, 3) := by decide +kernel
theorem dX1_joins_16 : decode cX1_joins 16 = .ok (.invokevirtual 71, 3) := by decide +kernel
theorem dX1_joins_19 : decode cX1_joins 19 = .ok (.ifCond .eq 5, 3) := by decide +kernel
theorem dX1_joins_22 : decode cX1_joins 22 = .ok (.iconst 0, 1) := by decide +kernel
theorem dX1_joins_23 : decode cX1_joins 23 = .ok (.ireturn, 1) := by decide +kernel
theorem dX1_joins_24 : decode cX1_joins 24 = .ok (.aload_n 1, 1) := by decide +kernel
theorem dX1_joins_25 : decode cX1_joins 25 = .ok (.aload_n 0, 1) := by decide +kernel
theorem dX1_joins_26 : decode cX1_joins 26 = .ok (.iload_n 2, 1) := by decide +kernel
theorem dX1_joins_27 : decode cX1_joins 27 = .ok (.invokevirtual 61, 3) := by decide +kernel
theorem dX1_joins_30 : decode cX1_joins 30 = .ok (.aload_n 0, 1) := by decide +kernel
theorem dX1_joins_31 : decode cX1_joins 31 = .ok (.iload_n 2, 1) := by decide +kernel
theorem dX1_joins_32 : decode cX1_joins 32 = .ok (.invokevirtual 65, 3) := by decide +kernel
theorem dX1_joins_35 : decode cX1_joins 35 = .ok (.aload_n 0, 1) := by decide +kernel
theorem dX1_joins_36 : decode cX1_joins 36 = .ok (.iload_n 2, 1) := by decide +kernel
theorem dX1_joins_37 : decode cX1_joins 37 = .ok (.invokevirtual 68, 3) := by decide +kernel
theorem dX1_joins_40 : decode cX1_joins 40 = .ok (.invokevirtual 76, 3) := by decide +kernel
theorem dX1_joins_43 : decode cX1_joins 43 = .ok (.iconst 1, 1) := by decide +kernel
theorem dX1_joins_44 : decode cX1_joins 44 = .ok (.ireturn, 1) := by decide +kernel
theorem dX1_judge_0 : decode cX1_judge 0 = .ok (.iconst 0, 1) := by decide +kernel
theorem dX1_judge_1 : decode cX1_judge 1 = .ok (.istore_n 1, 1) := by decide +kernel
theorem dX1_judge_2 : decode cX1_judge 2 = .ok (.iconst 0, 1) := by decide +kernel
theorem dX1_judge_3 : decode cX1_judge 3 = .ok (.istore_n 2, 1) := by decide +kernel
theorem dX1_judge_4 : decode cX1_judge 4 = .ok (.iload_n 2, 1) := by decide +kernel
theorem dX1_judge_5 : decode cX1_judge 5 = .ok (.aload_n 0, 1) := by decide +kernel
theorem dX1_judge_6 : decode cX1_judge 6 = .ok (.getfield 34, 3) := by decide +kernel
theorem dX1_judge_9 : decode cX1_judge 9 = .ok (.if_icmp .ge 115, 3) := by decide +kernel
theorem dX1_judge_12 : decode cX1_judge 12 = .ok (.aload_n 0, 1) := by decide +kernel
theorem dX1_judge_13 : decode cX1_judge 13 = .ok (.getfield 24, 3) := by decide +kernel
theorem dX1_judge_16 : decode cX1_judge 16 = .ok (.iload_n 2, 1) := by decide +kernel
theorem dX1_judge_17 : decode cX1_judge 17 = .ok (.iaload, 1) := by decide +kernel
theorem dX1_judge_18 : decode cX1_judge 18 = .ok (.istore_n 3, 1) := by decide +kernel
theorem dX1_judge_19 : decode cX1_judge 19 = .ok (.iload_n 3, 1) := by decide +kernel
theorem dX1_judge_20 : decode cX1_judge 20 = .ok (.bipush 12, 2) := by decide +kernel
theorem dX1_judge_22 : decode cX1_judge 22 = .ok (.if_icmp .ne 28, 3) := by decide +kernel
theorem dX1_judge_25 : decode cX1_judge 25 = .ok (.iload_n 1, 1) := by decide +kernel
theorem dX1_judge_26 : decode cX1_judge 26 = .ok (.ifCond .le 92, 3) := by decide +kernel
theorem dX1_judge_29 : decode cX1_judge 29 = .ok (.aload_n 0, 1) := by decide +kernel
theorem dX1_judge_30 : decode cX1_judge 30 = .ok (.getfield 27, 3) := by decide +kernel
theorem dX1_judge_33 : decode cX1_judge 33 = .ok (.iload_n 1, 1) := by decide +kernel
theorem dX1_judge_34 : decode cX1_judge 34 = .ok (.iconst 1, 1) := by decide +kernel
theorem dX1_judge_35 : decode cX1_judge 35 = .ok (.isub, 1) := by decide +kernel
theorem dX1_judge_36 : decode cX1_judge 36 = .ok (.iconst 2, 1) := by decide +kernel
theorem dX1_judge_37 : decode cX1_judge 37 = .ok (.aload_n 0, 1) := by decide +kernel
theorem dX1_judge_38 : decode cX1_judge 38 = .ok (.getfield 27, 3) := by decide +kernel
theorem dX1_judge_41 : decode cX1_judge 41 = .ok (.iload_n 1, 1) := by decide +kernel
theorem dX1_judge_42 : decode cX1_judge 42 = .ok (.iconst 1, 1) := by decide +kernel
theorem dX1_judge_43 : decode cX1_judge 43 = .ok (.isub, 1) := by decide +kernel
theorem dX1_judge_44 : decode cX1_judge 44 = .ok (.iaload, 1) := by decide +kernel
theorem dX1_judge_45 : decode cX1_judge 45 = .ok (.isub, 1) := by decide +kernel
theorem dX1_judge_46 : decode cX1_judge 46 = .ok (.iastore, 1) := by decide +kernel
theorem dX1_judge_47 : decode cX1_judge 47 = .ok (.goto 71, 3) := by decide +kernel
theorem dX1_judge_50 : decode cX1_judge 50 = .ok (.iload_n 3, 1) := by decide +kernel
theorem dX1_judge_51 : decode cX1_judge 51 = .ok (.bipush 13, 2) := by decide +kernel
theorem dX1_judge_53 : decode cX1_judge 53 = .ok (.if_icmp .lt 42, 3) := by decide +kernel
theorem dX1_judge_56 : decode cX1_judge 56 = .ok (.iload_n 1, 1) := by decide +kernel
theorem dX1_judge_57 : decode cX1_judge 57 = .ok (.iconst 1, 1) := by decide +kernel
theorem dX1_judge_58 : decode cX1_judge 58 = .ok (.if_icmp .le 60, 3) := by decide +kernel
theorem dX1_judge_61 : decode cX1_judge 61 = .ok (.aload_n 0, 1) := by decide +kernel
theorem dX1_judge_62 : decode cX1_judge 62 = .ok (.getfield 27, 3) := by decide +kernel
theorem dX1_judge_65 : decode cX1_judge 65 = .ok (.iload_n 1, 1) := by decide +kernel
theorem dX1_judge_66 : decode cX1_judge 66 = .ok (.iconst 2, 1) := by decide +kernel
theorem dX1_judge_67 : decode cX1_judge 67 = .ok (.isub, 1) := by decide +kernel
theorem dX1_judge_68 : decode cX1_judge 68 = .ok (.iload_n 3, 1) := by decide +kernel
theorem dX1_judge_69 : decode cX1_judge 69 = .ok (.aload_n 0, 1) := by decide +kernel
theorem dX1_judge_70 : decode cX1_judge 70 = .ok (.getfield 27, 3) := by decide +kernel
theorem dX1_judge_73 : decode cX1_judge 73 = .ok (.iload_n 1, 1) := by decide +kernel
theorem dX1_judge_74 : decode cX1_judge 74 = .ok (.iconst 2, 1) := by decide +kernel
theorem dX1_judge_75 : decode cX1_judge 75 = .ok (.isub, 1) := by decide +kernel
theorem dX1_judge_76 : decode cX1_judge 76 = .ok (.iaload, 1) := by decide +kernel
theorem dX1_judge_77 : decode cX1_judge 77 = .ok (.aload_n 0, 1) := by decide +kernel
theorem dX1_judge_78 : decode cX1_judge 78 = .ok (.getfield 27, 3) := by decide +kernel
theorem dX1_judge_81 : decode cX1_judge 81 = .ok (.iload_n 1, 1) := by decide +kernel
theorem dX1_judge_82 : decode cX1_judge 82 = .ok (.iconst 1, 1) := by decide +kernel
theorem dX1_judge_83 : decode cX1_judge 83 = .ok (.isub, 1) := by decide +kernel
theorem dX1_judge_84 : decode cX1_judge 84 = .ok (.iaload, 1) := by decide +kernel
theorem dX1_judge_85 : decode cX1_judge 85 = .ok (.invokestatic 80, 3) := by decide +kernel
theorem dX1_judge_88 : decode cX1_judge 88 = .ok (.iastore, 1) := by decide +kernel
theorem dX1_judge_89 : decode cX1_judge 89 = .ok (.iinc 1 (-1), 3) := by decide +kernel
theorem dX1_judge_92 : decode cX1_judge 92 = .ok (.goto 26, 3) := by decide +kernel
theorem dX1_judge_95 : decode cX1_judge 95 = .ok (.iload_n 1, 1) := by decide +kernel
theorem dX1_judge_96 : decode cX1_judge 96 = .ok (.aload_n 0, 1) := by decide +kernel
theorem dX1_judge_97 : decode cX1_judge 97 = .ok (.getfield 27, 3) := by decide +kernel
theorem dX1_judge_100 : decode cX1_judge 100 = .ok (.arraylength, 1) := by decide +kernel
theorem dX1_judge_101 : decode cX1_judge 101 = .ok (.if_icmp .ge 17, 3) := by decide +kernel
theorem dX1_judge_104 : decode cX1_judge 104 = .ok (.aload_n 0, 1) := by decide +kernel
theorem dX1_judge_105 : decode cX1_judge 105 = .ok (.getfield 27, 3) := by decide +kernel
theorem dX1_judge_108 : decode cX1_judge 108 = .ok (.iload_n 1, 1) := by decide +kernel
theorem dX1_judge_109 : decode cX1_judge 109 = .ok (.aload_n 0, 1) := by decide +kernel
theorem dX1_judge_110 : decode cX1_judge 110 = .ok (.iload_n 3, 1) := by decide +kernel
theorem dX1_judge_111 : decode cX1_judge 111 = .ok (.invokevirtual 83, 3) := by decide +kernel
theorem dX1_judge_114 : decode cX1_judge 114 = .ok (.iastore, 1) := by decide +kernel
theorem dX1_judge_115 : decode cX1_judge 115 = .ok (.iinc 1 1, 3) := by decide +kernel
theorem dX1_judge_118 : decode cX1_judge 118 = .ok (.iinc 2 1, 3) := by decide +kernel
theorem dX1_judge_121 : decode cX1_judge 121 = .ok (.goto (-117), 3) := by decide +kernel
theorem dX1_judge_124 : decode cX1_judge 124 = .ok (.iload_n 1, 1) := by decide +kernel
theorem dX1_judge_125 : decode cX1_judge 125 = .ok (.ifCond .le 14, 3) := by decide +kernel
theorem dX1_judge_128 : decode cX1_judge 128 = .ok (.aload_n 0, 1) := by decide +kernel
theorem dX1_judge_129 : decode cX1_judge 129 = .ok (.getfield 27, 3) := by decide +kernel
theorem dX1_judge_132 : decode cX1_judge 132 = .ok (.iload_n 1, 1) := by decide +kernel
theorem dX1_judge_133 : decode cX1_judge 133 = .ok (.iconst 1, 1) := by decide +kernel
theorem dX1_judge_134 : decode cX1_judge 134 = .ok (.isub, 1) := by decide +kernel
theorem dX1_judge_135 : decode cX1_judge 135 = .ok (.iaload, 1) := by decide +kernel
theorem dX1_judge_136 : decode cX1_judge 136 = .ok (.goto 4, 3) := by decide +kernel
theorem dX1_judge_139 : decode cX1_judge 139 = .ok (.iconst 1, 1) := by decide +kernel
theorem dX1_judge_140 : decode cX1_judge 140 = .ok (.ireturn, 1) := by decide +kernel
theorem dX1_leafTruth_0 : decode cX1_leafTruth 0 = .ok (.iload_n 1, 1) := by decide +kernel
theorem dX1_leafTruth_1 : decode cX1_leafTruth 1 = .ok (.bipush 10, 2) := by decide +kernel
theorem dX1_leafTruth_3 : decode cX1_leafTruth 3 = .ok (.if_icmp .ne 5, 3) := by decide +kernel
theorem dX1_leafTruth_6 : decode cX1_leafTruth 6 = .ok (.iconst 0, 1) := by decide +kernel
theorem dX1_leafTruth_7 : decode cX1_leafTruth 7 = .ok (.ireturn, 1) := by decide +kernel
theorem dX1_leafTruth_8 : decode cX1_leafTruth 8 = .ok (.iload_n 1, 1) := by decide +kernel
theorem dX1_leafTruth_9 : decode cX1_leafTruth 9 = .ok (.ifCond .lt 18, 3) := by decide +kernel
theorem dX1_leafTruth_12 : decode cX1_leafTruth 12 = .ok (.iload_n 1, 1) := by decide +kernel
theorem dX1_leafTruth_13 : decode cX1_leafTruth 13 = .ok (.bipush 10, 2) := by decide +kernel
theorem dX1_leafTruth_15 : decode cX1_leafTruth 15 = .ok (.if_icmp .ge 12, 3) := by decide +kernel
theorem dX1_leafTruth_18 : decode cX1_leafTruth 18 = .ok (.aload_n 0, 1) := by decide +kernel
theorem dX1_leafTruth_19 : decode cX1_leafTruth 19 = .ok (.getfield 21, 3) := by decide +kernel
theorem dX1_leafTruth_22 : decode cX1_leafTruth 22 = .ok (.iload_n 1, 1) := by decide +kernel
theorem dX1_leafTruth_23 : decode cX1_leafTruth 23 = .ok (.iaload, 1) := by decide +kernel
theorem dX1_leafTruth_24 : decode cX1_leafTruth 24 = .ok (.goto 4, 3) := by decide +kernel
theorem dX1_leafTruth_27 : decode cX1_leafTruth 27 = .ok (.iconst 2, 1) := by decide +kernel
theorem dX1_leafTruth_28 : decode cX1_leafTruth 28 = .ok (.ireturn, 1) := by decide +kernel
theorem dX1_joined_0 : decode cX1_joined 0 = .ok (.iload_n 0, 1) := by decide +kernel
theorem dX1_joined_1 : decode cX1_joined 1 = .ok (.bipush 13, 2) := by decide +kernel
theorem dX1_joined_3 : decode cX1_joined 3 = .ok (.if_icmp .ne 9, 3) := by decide +kernel
theorem dX1_joined_6 : decode cX1_joined 6 = .ok (.iload_n 1, 1) := by decide +kernel
theorem dX1_joined_7 : decode cX1_joined 7 = .ok (.iload_n 2, 1) := by decide +kernel
theorem dX1_joined_8 : decode cX1_joined 8 = .ok (.invokestatic 86, 3) := by decide +kernel
theorem dX1_joined_11 : decode cX1_joined 11 = .ok (.ireturn, 1) := by decide +kernel
theorem dX1_joined_12 : decode cX1_joined 12 = .ok (.iload_n 0, 1) := by decide +kernel
theorem dX1_joined_13 : decode cX1_joined 13 = .ok (.bipush 15, 2) := by decide +kernel
theorem dX1_joined_15 : decode cX1_joined 15 = .ok (.if_icmp .ne 9, 3) := by decide +kernel
theorem dX1_joined_18 : decode cX1_joined 18 = .ok (.iconst 2, 1) := by decide +kernel
theorem dX1_joined_19 : decode cX1_joined 19 = .ok (.iload_n 1, 1) := by decide +kernel
theorem dX1_joined_20 : decode cX1_joined 20 = .ok (.isub, 1) := by decide +kernel
theorem dX1_joined_21 : decode cX1_joined 21 = .ok (.goto 4, 3) := by decide +kernel
theorem dX1_joined_24 : decode cX1_joined 24 = .ok (.iload_n 1, 1) := by decide +kernel
theorem dX1_joined_25 : decode cX1_joined 25 = .ok (.iload_n 2, 1) := by decide +kernel
theorem dX1_joined_26 : decode cX1_joined 26 = .ok (.invokestatic 92, 3) := by decide +kernel
theorem dX1_joined_29 : decode cX1_joined 29 = .ok (.ireturn, 1) := by decide +kernel
theorem dX2_init_0 : decode cX2_init 0 = .ok (.aload_n 0, 1) := by decide +kernel
theorem dX2_init_1 : decode cX2_init 1 = .ok (.invokespecial 3, 3) := by decide +kernel
theorem dX2_init_4 : decode cX2_init 4 = .ok (.aload_n 0, 1) := by decide +kernel
theorem dX2_init_5 : decode cX2_init 5 = .ok (.bipush 70, 2) := by decide +kernel
theorem dX2_init_7 : decode cX2_init 7 = .ok (.newarray .int, 2) := by decide +kernel
theorem dX2_init_9 : decode cX2_init 9 = .ok (.putfield 9, 3) := by decide +kernel
theorem dX2_init_12 : decode cX2_init 12 = .ok (.aload_n 0, 1) := by decide +kernel
theorem dX2_init_13 : decode cX2_init 13 = .ok (.bipush 70, 2) := by decide +kernel
theorem dX2_init_15 : decode cX2_init 15 = .ok (.newarray .int, 2) := by decide +kernel
theorem dX2_init_17 : decode cX2_init 17 = .ok (.putfield 15, 3) := by decide +kernel
theorem dX2_init_20 : decode cX2_init 20 = .ok (.aload_n 0, 1) := by decide +kernel
theorem dX2_init_21 : decode cX2_init 21 = .ok (.bipush 70, 2) := by decide +kernel
theorem dX2_init_23 : decode cX2_init 23 = .ok (.newarray .int, 2) := by decide +kernel
theorem dX2_init_25 : decode cX2_init 25 = .ok (.putfield 18, 3) := by decide +kernel
theorem dX2_init_28 : decode cX2_init 28 = .ok (.aload_n 0, 1) := by decide +kernel
theorem dX2_init_29 : decode cX2_init 29 = .ok (.bipush 16, 2) := by decide +kernel
theorem dX2_init_31 : decode cX2_init 31 = .ok (.newarray .int, 2) := by decide +kernel
theorem dX2_init_33 : decode cX2_init 33 = .ok (.putfield 21, 3) := by decide +kernel
theorem dX2_init_36 : decode cX2_init 36 = .ok (.aload_n 0, 1) := by decide +kernel
theorem dX2_init_37 : decode cX2_init 37 = .ok (.bipush 16, 2) := by decide +kernel
theorem dX2_init_39 : decode cX2_init 39 = .ok (.bipush 16, 2) := by decide +kernel
theorem dX2_init_41 : decode cX2_init 41 = .ok (.multianewarray 24 2, 4) := by decide +kernel
theorem dX2_init_45 : decode cX2_init 45 = .ok (.putfield 26, 3) := by decide +kernel
theorem dX2_init_48 : decode cX2_init 48 = .ok (.aload_n 0, 1) := by decide +kernel
theorem dX2_init_49 : decode cX2_init 49 = .ok (.bipush 16, 2) := by decide +kernel
theorem dX2_init_51 : decode cX2_init 51 = .ok (.newarray .long, 2) := by decide +kernel
theorem dX2_init_53 : decode cX2_init 53 = .ok (.putfield 29, 3) := by decide +kernel
theorem dX2_init_56 : decode cX2_init 56 = .ok (.return_, 1) := by decide +kernel
theorem dX2_append_0 : decode cX2_append 0 = .ok (.aload_n 0, 1) := by decide +kernel
theorem dX2_append_1 : decode cX2_append 1 = .ok (.getfield 33, 3) := by decide +kernel
theorem dX2_append_4 : decode cX2_append 4 = .ok (.aload_n 0, 1) := by decide +kernel
theorem dX2_append_5 : decode cX2_append 5 = .ok (.getfield 9, 3) := by decide +kernel
theorem dX2_append_8 : decode cX2_append 8 = .ok (.arraylength, 1) := by decide +kernel
theorem dX2_append_9 : decode cX2_append 9 = .ok (.if_icmp .ge 43, 3) := by decide +kernel
theorem dX2_append_12 : decode cX2_append 12 = .ok (.aload_n 0, 1) := by decide +kernel
theorem dX2_append_13 : decode cX2_append 13 = .ok (.getfield 9, 3) := by decide +kernel
theorem dX2_append_16 : decode cX2_append 16 = .ok (.aload_n 0, 1) := by decide +kernel
theorem dX2_append_17 : decode cX2_append 17 = .ok (.getfield 33, 3) := by decide +kernel
theorem dX2_append_20 : decode cX2_append 20 = .ok (.iload_n 1, 1) := by decide +kernel
theorem dX2_append_21 : decode cX2_append 21 = .ok (.iastore, 1) := by decide +kernel
theorem dX2_append_22 : decode cX2_append 22 = .ok (.aload_n 0, 1) := by decide +kernel
theorem dX2_append_23 : decode cX2_append 23 = .ok (.getfield 15, 3) := by decide +kernel
theorem dX2_append_26 : decode cX2_append 26 = .ok (.aload_n 0, 1) := by decide +kernel
theorem dX2_append_27 : decode cX2_append 27 = .ok (.getfield 33, 3) := by decide +kernel
theorem dX2_append_30 : decode cX2_append 30 = .ok (.iload_n 2, 1) := by decide +kernel
theorem dX2_append_31 : decode cX2_append 31 = .ok (.iastore, 1) := by decide +kernel
theorem dX2_append_32 : decode cX2_append 32 = .ok (.aload_n 0, 1) := by decide +kernel
theorem dX2_append_33 : decode cX2_append 33 = .ok (.getfield 18, 3) := by decide +kernel
theorem dX2_append_36 : decode cX2_append 36 = .ok (.aload_n 0, 1) := by decide +kernel
theorem dX2_append_37 : decode cX2_append 37 = .ok (.getfield 33, 3) := by decide +kernel
theorem dX2_append_40 : decode cX2_append 40 = .ok (.iload_n 3, 1) := by decide +kernel
theorem dX2_append_41 : decode cX2_append 41 = .ok (.iastore, 1) := by decide +kernel
theorem dX2_append_42 : decode cX2_append 42 = .ok (.aload_n 0, 1) := by decide +kernel
theorem dX2_append_43 : decode cX2_append 43 = .ok (.dup, 1) := by decide +kernel
theorem dX2_append_44 : decode cX2_append 44 = .ok (.getfield 33, 3) := by decide +kernel
theorem dX2_append_47 : decode cX2_append 47 = .ok (.iconst 1, 1) := by decide +kernel
theorem dX2_append_48 : decode cX2_append 48 = .ok (.iadd, 1) := by decide +kernel
theorem dX2_append_49 : decode cX2_append 49 = .ok (.putfield 33, 3) := by decide +kernel
theorem dX2_append_52 : decode cX2_append 52 = .ok (.return_, 1) := by decide +kernel
theorem dX2_cutTo_0 : decode cX2_cutTo 0 = .ok (.iload_n 1, 1) := by decide +kernel
theorem dX2_cutTo_1 : decode cX2_cutTo 1 = .ok (.ifCond .lt 16, 3) := by decide +kernel
theorem dX2_cutTo_4 : decode cX2_cutTo 4 = .ok (.iload_n 1, 1) := by decide +kernel
theorem dX2_cutTo_5 : decode cX2_cutTo 5 = .ok (.aload_n 0, 1) := by decide +kernel
theorem dX2_cutTo_6 : decode cX2_cutTo 6 = .ok (.getfield 33, 3) := by decide +kernel
theorem dX2_cutTo_9 : decode cX2_cutTo 9 = .ok (.if_icmp .ge 8, 3) := by decide +kernel
theorem dX2_cutTo_12 : decode cX2_cutTo 12 = .ok (.aload_n 0, 1) := by decide +kernel
theorem dX2_cutTo_13 : decode cX2_cutTo 13 = .ok (.iload_n 1, 1) := by decide +kernel
theorem dX2_cutTo_14 : decode cX2_cutTo 14 = .ok (.putfield 33, 3) := by decide +kernel
theorem dX2_cutTo_17 : decode cX2_cutTo 17 = .ok (.return_, 1) := by decide +kernel
theorem dX2_refuses_0 : decode cX2_refuses 0 = .ok (.aload_n 0, 1) := by decide +kernel
theorem dX2_refuses_1 : decode cX2_refuses 1 = .ok (.iload_n 1, 1) := by decide +kernel
theorem dX2_refuses_2 : decode cX2_refuses 2 = .ok (.iconst (-1), 1) := by decide +kernel
theorem dX2_refuses_3 : decode cX2_refuses 3 = .ok (.invokevirtual 37, 3) := by decide +kernel
theorem dX2_refuses_6 : decode cX2_refuses 6 = .ok (.aload_n 0, 1) := by decide +kernel
theorem dX2_refuses_7 : decode cX2_refuses 7 = .ok (.iload_n 2, 1) := by decide +kernel
theorem dX2_refuses_8 : decode cX2_refuses 8 = .ok (.ldc2_w 41, 3) := by decide +kernel
theorem dX2_refuses_11 : decode cX2_refuses 11 = .ok (.iload_n 3, 1) := by decide +kernel
theorem dX2_refuses_12 : decode cX2_refuses 12 = .ok (.i2l, 1) := by decide +kernel
theorem dX2_refuses_13 : decode cX2_refuses 13 = .ok (.lsub, 1) := by decide +kernel
theorem dX2_refuses_14 : decode cX2_refuses 14 = .ok (.invokevirtual 43, 3) := by decide +kernel
theorem dX2_refuses_17 : decode cX2_refuses 17 = .ok (.ireturn, 1) := by decide +kernel
theorem dX2_leastSum_0 : decode cX2_leastSum 0 = .ok (.aload_n 0, 1) := by decide +kernel
theorem dX2_leastSum_1 : decode cX2_leastSum 1 = .ok (.iload_n 2, 1) := by decide +kernel
theorem dX2_leastSum_2 : decode cX2_leastSum 2 = .ok (.iload_n 3, 1) := by decide +kernel
theorem dX2_leastSum_3 : decode cX2_leastSum 3 = .ok (.invokevirtual 37, 3) := by decide +kernel
theorem dX2_leastSum_6 : decode cX2_leastSum 6 = .ok (.aload_n 0, 1) := by decide +kernel
theorem dX2_leastSum_7 : decode cX2_leastSum 7 = .ok (.getfield 26, 3) := by decide +kernel
theorem dX2_leastSum_10 : decode cX2_leastSum 10 = .ok (.aload_n 0, 1) := by decide +kernel
theorem dX2_leastSum_11 : decode cX2_leastSum 11 = .ok (.getfield 47, 3) := by decide +kernel
theorem dX2_leastSum_14 : decode cX2_leastSum 14 = .ok (.aaload, 1) := by decide +kernel
theorem dX2_leastSum_15 : decode cX2_leastSum 15 = .ok (.iload_n 1, 1) := by decide +kernel
theorem dX2_leastSum_16 : decode cX2_leastSum 16 = .ok (.laload, 1) := by decide +kernel
theorem dX2_leastSum_17 : decode cX2_leastSum 17 = .ok (.lreturn, 1) := by decide +kernel
theorem dX2_traceRow_0 : decode cX2_traceRow 0 = .ok (.aload_n 0, 1) := by decide +kernel
theorem dX2_traceRow_1 : decode cX2_traceRow 1 = .ok (.iconst 0, 1) := by decide +kernel
theorem dX2_traceRow_2 : decode cX2_traceRow 2 = .ok (.putfield 50, 3) := by decide +kernel
theorem dX2_traceRow_5 : decode cX2_traceRow 5 = .ok (.iconst 0, 1) := by decide +kernel
theorem dX2_traceRow_6 : decode cX2_traceRow 6 = .ok (.istore 4, 2) := by decide +kernel
theorem dX2_traceRow_8 : decode cX2_traceRow 8 = .ok (.iload 4, 2) := by decide +kernel
theorem dX2_traceRow_10 : decode cX2_traceRow 10 = .ok (.aload_n 0, 1) := by decide +kernel
theorem dX2_traceRow_11 : decode cX2_traceRow 11 = .ok (.getfield 47, 3) := by decide +kernel
theorem dX2_traceRow_14 : decode cX2_traceRow 14 = .ok (.if_icmp .gt 23, 3) := by decide +kernel
theorem dX2_traceRow_17 : decode cX2_traceRow 17 = .ok (.aload_n 0, 1) := by decide +kernel
theorem dX2_traceRow_18 : decode cX2_traceRow 18 = .ok (.getfield 26, 3) := by decide +kernel
theorem dX2_traceRow_21 : decode cX2_traceRow 21 = .ok (.iload 4, 2) := by decide +kernel
theorem dX2_traceRow_23 : decode cX2_traceRow 23 = .ok (.aaload, 1) := by decide +kernel
theorem dX2_traceRow_24 : decode cX2_traceRow 24 = .ok (.iload_n 1, 1) := by decide +kernel
theorem dX2_traceRow_25 : decode cX2_traceRow 25 = .ok (.laload, 1) := by decide +kernel
theorem dX2_traceRow_26 : decode cX2_traceRow 26 = .ok (.lload_n 2, 1) := by decide +kernel
theorem dX2_traceRow_27 : decode cX2_traceRow 27 = .ok (.lcmp, 1) := by decide +kernel
theorem dX2_traceRow_28 : decode cX2_traceRow 28 = .ok (.ifCond .le 9, 3) := by decide +kernel
theorem dX2_traceRow_31 : decode cX2_traceRow 31 = .ok (.iinc 4 1, 3) := by decide +kernel
theorem dX2_traceRow_34 : decode cX2_traceRow 34 = .ok (.goto (-26), 3) := by decide +kernel
theorem dX2_traceRow_37 : decode cX2_traceRow 37 = .ok (.iload 4, 2) := by decide +kernel
theorem dX2_traceRow_39 : decode cX2_traceRow 39 = .ok (.aload_n 0, 1) := by decide +kernel
theorem dX2_traceRow_40 : decode cX2_traceRow 40 = .ok (.getfield 47, 3) := by decide +kernel
theorem dX2_traceRow_43 : decode cX2_traceRow 43 = .ok (.if_icmp .le 5, 3) := by decide +kernel
theorem dX2_traceRow_46 : decode cX2_traceRow 46 = .ok (.iconst 0, 1) := by decide +kernel
theorem dX2_traceRow_47 : decode cX2_traceRow 47 = .ok (.ireturn, 1) := by decide +kernel
theorem dX2_traceRow_48 : decode cX2_traceRow 48 = .ok (.iload_n 1, 1) := by decide +kernel
theorem dX2_traceRow_49 : decode cX2_traceRow 49 = .ok (.istore 5, 2) := by decide +kernel
theorem dX2_traceRow_51 : decode cX2_traceRow 51 = .ok (.lload_n 2, 1) := by decide +kernel
theorem dX2_traceRow_52 : decode cX2_traceRow 52 = .ok (.lstore 6, 2) := by decide +kernel
theorem dX2_traceRow_54 : decode cX2_traceRow 54 = .ok (.iload 4, 2) := by decide +kernel
theorem dX2_traceRow_56 : decode cX2_traceRow 56 = .ok (.iconst 1, 1) := by decide +kernel
theorem dX2_traceRow_57 : decode cX2_traceRow 57 = .ok (.isub, 1) := by decide +kernel
theorem dX2_traceRow_58 : decode cX2_traceRow 58 = .ok (.istore 8, 2) := by decide +kernel
theorem dX2_traceRow_60 : decode cX2_traceRow 60 = .ok (.iload 8, 2) := by decide +kernel
theorem dX2_traceRow_62 : decode cX2_traceRow 62 = .ok (.ifCond .lt 72, 3) := by decide +kernel
theorem dX2_traceRow_65 : decode cX2_traceRow 65 = .ok (.aload_n 0, 1) := by decide +kernel
theorem dX2_traceRow_66 : decode cX2_traceRow 66 = .ok (.iload 5, 2) := by decide +kernel
theorem dX2_traceRow_68 : decode cX2_traceRow 68 = .ok (.iload 8, 2) := by decide +kernel
theorem dX2_traceRow_70 : decode cX2_traceRow 70 = .ok (.lload 6, 2) := by decide +kernel
theorem dX2_traceRow_72 : decode cX2_traceRow 72 = .ok (.invokevirtual 53, 3) := by decide +kernel
theorem dX2_traceRow_75 : decode cX2_traceRow 75 = .ok (.istore 9, 2) := by decide +kernel
theorem dX2_traceRow_77 : decode cX2_traceRow 77 = .ok (.iload 9, 2) := by decide +kernel
theorem dX2_traceRow_79 : decode cX2_traceRow 79 = .ok (.iconst (-1), 1) := by decide +kernel
theorem dX2_traceRow_80 : decode cX2_traceRow 80 = .ok (.if_icmp .ne 5, 3) := by decide +kernel
theorem dX2_traceRow_83 : decode cX2_traceRow 83 = .ok (.iconst 0, 1) := by decide +kernel
theorem dX2_traceRow_84 : decode cX2_traceRow 84 = .ok (.ireturn, 1) := by decide +kernel
theorem dX2_traceRow_85 : decode cX2_traceRow 85 = .ok (.aload_n 0, 1) := by decide +kernel
theorem dX2_traceRow_86 : decode cX2_traceRow 86 = .ok (.getfield 21, 3) := by decide +kernel
theorem dX2_traceRow_89 : decode cX2_traceRow 89 = .ok (.aload_n 0, 1) := by decide +kernel
theorem dX2_traceRow_90 : decode cX2_traceRow 90 = .ok (.getfield 50, 3) := by decide +kernel
theorem dX2_traceRow_93 : decode cX2_traceRow 93 = .ok (.iload 9, 2) := by decide +kernel
theorem dX2_traceRow_95 : decode cX2_traceRow 95 = .ok (.iastore, 1) := by decide +kernel
theorem dX2_traceRow_96 : decode cX2_traceRow 96 = .ok (.aload_n 0, 1) := by decide +kernel
theorem dX2_traceRow_97 : decode cX2_traceRow 97 = .ok (.dup, 1) := by decide +kernel
theorem dX2_traceRow_98 : decode cX2_traceRow 98 = .ok (.getfield 50, 3) := by decide +kernel
theorem dX2_traceRow_101 : decode cX2_traceRow 101 = .ok (.iconst 1, 1) := by decide +kernel
theorem dX2_traceRow_102 : decode cX2_traceRow 102 = .ok (.iadd, 1) := by decide +kernel
theorem dX2_traceRow_103 : decode cX2_traceRow 103 = .ok (.putfield 50, 3) := by decide +kernel
theorem dX2_traceRow_106 : decode cX2_traceRow 106 = .ok (.lload 6, 2) := by decide +kernel
theorem dX2_traceRow_108 : decode cX2_traceRow 108 = .ok (.aload_n 0, 1) := by decide +kernel
theorem dX2_traceRow_109 : decode cX2_traceRow 109 = .ok (.getfield 18, 3) := by decide +kernel
theorem dX2_traceRow_112 : decode cX2_traceRow 112 = .ok (.iload 9, 2) := by decide +kernel
theorem dX2_traceRow_114 : decode cX2_traceRow 114 = .ok (.iaload, 1) := by decide +kernel
theorem dX2_traceRow_115 : decode cX2_traceRow 115 = .ok (.i2l, 1) := by decide +kernel
theorem dX2_traceRow_116 : decode cX2_traceRow 116 = .ok (.lsub, 1) := by decide +kernel
theorem dX2_traceRow_117 : decode cX2_traceRow 117 = .ok (.lstore 6, 2) := by decide +kernel
theorem dX2_traceRow_119 : decode cX2_traceRow 119 = .ok (.aload_n 0, 1) := by decide +kernel
theorem dX2_traceRow_120 : decode cX2_traceRow 120 = .ok (.getfield 15, 3) := by decide +kernel
theorem dX2_traceRow_123 : decode cX2_traceRow 123 = .ok (.iload 9, 2) := by decide +kernel
theorem dX2_traceRow_125 : decode cX2_traceRow 125 = .ok (.iaload, 1) := by decide +kernel
theorem dX2_traceRow_126 : decode cX2_traceRow 126 = .ok (.istore 5, 2) := by decide +kernel
theorem dX2_traceRow_128 : decode cX2_traceRow 128 = .ok (.iinc 8 (-1), 3) := by decide +kernel
theorem dX2_traceRow_131 : decode cX2_traceRow 131 = .ok (.goto (-71), 3) := by decide +kernel
theorem dX2_traceRow_134 : decode cX2_traceRow 134 = .ok (.iconst 1, 1) := by decide +kernel
theorem dX2_traceRow_135 : decode cX2_traceRow 135 = .ok (.ireturn, 1) := by decide +kernel
theorem dX2_firstOnward_0 : decode cX2_firstOnward 0 = .ok (.iconst 0, 1) := by decide +kernel
theorem dX2_firstOnward_1 : decode cX2_firstOnward 1 = .ok (.istore 5, 2) := by decide +kernel
theorem dX2_firstOnward_3 : decode cX2_firstOnward 3 = .ok (.iload 5, 2) := by decide +kernel
theorem dX2_firstOnward_5 : decode cX2_firstOnward 5 = .ok (.aload_n 0, 1) := by decide +kernel
theorem dX2_firstOnward_6 : decode cX2_firstOnward 6 = .ok (.getfield 33, 3) := by decide +kernel
theorem dX2_firstOnward_9 : decode cX2_firstOnward 9 = .ok (.if_icmp .ge 64, 3) := by decide +kernel
theorem dX2_firstOnward_12 : decode cX2_firstOnward 12 = .ok (.aload_n 0, 1) := by decide +kernel
theorem dX2_firstOnward_13 : decode cX2_firstOnward 13 = .ok (.getfield 26, 3) := by decide +kernel
theorem dX2_firstOnward_16 : decode cX2_firstOnward 16 = .ok (.iload_n 2, 1) := by decide +kernel
theorem dX2_firstOnward_17 : decode cX2_firstOnward 17 = .ok (.aaload, 1) := by decide +kernel
theorem dX2_firstOnward_18 : decode cX2_firstOnward 18 = .ok (.aload_n 0, 1) := by decide +kernel
theorem dX2_firstOnward_19 : decode cX2_firstOnward 19 = .ok (.getfield 15, 3) := by decide +kernel
theorem dX2_firstOnward_22 : decode cX2_firstOnward 22 = .ok (.iload 5, 2) := by decide +kernel
theorem dX2_firstOnward_24 : decode cX2_firstOnward 24 = .ok (.iaload, 1) := by decide +kernel
theorem dX2_firstOnward_25 : decode cX2_firstOnward 25 = .ok (.laload, 1) := by decide +kernel
theorem dX2_firstOnward_26 : decode cX2_firstOnward 26 = .ok (.lstore 6, 2) := by decide +kernel
theorem dX2_firstOnward_28 : decode cX2_firstOnward 28 = .ok (.aload_n 0, 1) := by decide +kernel
theorem dX2_firstOnward_29 : decode cX2_firstOnward 29 = .ok (.getfield 9, 3) := by decide +kernel
theorem dX2_firstOnward_32 : decode cX2_firstOnward 32 = .ok (.iload 5, 2) := by decide +kernel
theorem dX2_firstOnward_34 : decode cX2_firstOnward 34 = .ok (.iaload, 1) := by decide +kernel
theorem dX2_firstOnward_35 : decode cX2_firstOnward 35 = .ok (.iload_n 1, 1) := by decide +kernel
theorem dX2_firstOnward_36 : decode cX2_firstOnward 36 = .ok (.if_icmp .ne 31, 3) := by decide +kernel
theorem dX2_firstOnward_39 : decode cX2_firstOnward 39 = .ok (.lload 6, 2) := by decide +kernel
theorem dX2_firstOnward_41 : decode cX2_firstOnward 41 = .ok (.ldc2_w 57, 3) := by decide +kernel
theorem dX2_firstOnward_44 : decode cX2_firstOnward 44 = .ok (.lcmp, 1) := by decide +kernel
theorem dX2_firstOnward_45 : decode cX2_firstOnward 45 = .ok (.ifCond .eq 22, 3) := by decide +kernel
theorem dX2_firstOnward_48 : decode cX2_firstOnward 48 = .ok (.aload_n 0, 1) := by decide +kernel
theorem dX2_firstOnward_49 : decode cX2_firstOnward 49 = .ok (.getfield 18, 3) := by decide +kernel
theorem dX2_firstOnward_52 : decode cX2_firstOnward 52 = .ok (.iload 5, 2) := by decide +kernel
theorem dX2_firstOnward_54 : decode cX2_firstOnward 54 = .ok (.iaload, 1) := by decide +kernel
theorem dX2_firstOnward_55 : decode cX2_firstOnward 55 = .ok (.i2l, 1) := by decide +kernel
theorem dX2_firstOnward_56 : decode cX2_firstOnward 56 = .ok (.lload 6, 2) := by decide +kernel
theorem dX2_firstOnward_58 : decode cX2_firstOnward 58 = .ok (.ladd, 1) := by decide +kernel
theorem dX2_firstOnward_59 : decode cX2_firstOnward 59 = .ok (.lload_n 3, 1) := by decide +kernel
theorem dX2_firstOnward_60 : decode cX2_firstOnward 60 = .ok (.lcmp, 1) := by decide +kernel
theorem dX2_firstOnward_61 : decode cX2_firstOnward 61 = .ok (.ifCond .gt 6, 3) := by decide +kernel
theorem dX2_firstOnward_64 : decode cX2_firstOnward 64 = .ok (.iload 5, 2) := by decide +kernel
theorem dX2_firstOnward_66 : decode cX2_firstOnward 66 = .ok (.ireturn, 1) := by decide +kernel
theorem dX2_firstOnward_67 : decode cX2_firstOnward 67 = .ok (.iinc 5 1, 3) := by decide +kernel
theorem dX2_firstOnward_70 : decode cX2_firstOnward 70 = .ok (.goto (-67), 3) := by decide +kernel
theorem dX2_firstOnward_73 : decode cX2_firstOnward 73 = .ok (.iconst (-1), 1) := by decide +kernel
theorem dX2_firstOnward_74 : decode cX2_firstOnward 74 = .ok (.ireturn, 1) := by decide +kernel
theorem dX2_measure_0 : decode cX2_measure 0 = .ok (.aload_n 0, 1) := by decide +kernel
theorem dX2_measure_1 : decode cX2_measure 1 = .ok (.getfield 26, 3) := by decide +kernel
theorem dX2_measure_4 : decode cX2_measure 4 = .ok (.iconst 0, 1) := by decide +kernel
theorem dX2_measure_5 : decode cX2_measure 5 = .ok (.aaload, 1) := by decide +kernel
theorem dX2_measure_6 : decode cX2_measure 6 = .ok (.ldc2_w 57, 3) := by decide +kernel
theorem dX2_measure_9 : decode cX2_measure 9 = .ok (.invokestatic 59, 3) := by decide +kernel
theorem dX2_measure_12 : decode cX2_measure 12 = .ok (.aload_n 0, 1) := by decide +kernel
theorem dX2_measure_13 : decode cX2_measure 13 = .ok (.getfield 26, 3) := by decide +kernel
theorem dX2_measure_16 : decode cX2_measure 16 = .ok (.iconst 0, 1) := by decide +kernel
theorem dX2_measure_17 : decode cX2_measure 17 = .ok (.aaload, 1) := by decide +kernel
theorem dX2_measure_18 : decode cX2_measure 18 = .ok (.iload_n 1, 1) := by decide +kernel
theorem dX2_measure_19 : decode cX2_measure 19 = .ok (.lconst 0, 1) := by decide +kernel
theorem dX2_measure_20 : decode cX2_measure 20 = .ok (.lastore, 1) := by decide +kernel
theorem dX2_measure_21 : decode cX2_measure 21 = .ok (.aload_n 0, 1) := by decide +kernel
theorem dX2_measure_22 : decode cX2_measure 22 = .ok (.iconst 0, 1) := by decide +kernel
theorem dX2_measure_23 : decode cX2_measure 23 = .ok (.putfield 47, 3) := by decide +kernel
theorem dX2_measure_26 : decode cX2_measure 26 = .ok (.iconst 1, 1) := by decide +kernel
theorem dX2_measure_27 : decode cX2_measure 27 = .ok (.istore_n 3, 1) := by decide +kernel
theorem dX2_measure_28 : decode cX2_measure 28 = .ok (.iconst 1, 1) := by decide +kernel
theorem dX2_measure_29 : decode cX2_measure 29 = .ok (.istore 4, 2) := by decide +kernel
theorem dX2_measure_31 : decode cX2_measure 31 = .ok (.iload 4, 2) := by decide +kernel
theorem dX2_measure_33 : decode cX2_measure 33 = .ok (.bipush 16, 2) := by decide +kernel
theorem dX2_measure_35 : decode cX2_measure 35 = .ok (.if_icmp .ge 154, 3) := by decide +kernel
theorem dX2_measure_38 : decode cX2_measure 38 = .ok (.iload_n 3, 1) := by decide +kernel
theorem dX2_measure_39 : decode cX2_measure 39 = .ok (.ifCond .eq 150, 3) := by decide +kernel
theorem dX2_measure_42 : decode cX2_measure 42 = .ok (.aload_n 0, 1) := by decide +kernel
theorem dX2_measure_43 : decode cX2_measure 43 = .ok (.getfield 26, 3) := by decide +kernel
theorem dX2_measure_46 : decode cX2_measure 46 = .ok (.iload 4, 2) := by decide +kernel
theorem dX2_measure_48 : decode cX2_measure 48 = .ok (.iconst 1, 1) := by decide +kernel
theorem dX2_measure_49 : decode cX2_measure 49 = .ok (.isub, 1) := by decide +kernel
theorem dX2_measure_50 : decode cX2_measure 50 = .ok (.aaload, 1) := by decide +kernel
theorem dX2_measure_51 : decode cX2_measure 51 = .ok (.iconst 0, 1) := by decide +kernel
theorem dX2_measure_52 : decode cX2_measure 52 = .ok (.aload_n 0, 1) := by decide +kernel
theorem dX2_measure_53 : decode cX2_measure 53 = .ok (.getfield 26, 3) := by decide +kernel
theorem dX2_measure_56 : decode cX2_measure 56 = .ok (.iload 4, 2) := by decide +kernel
theorem dX2_measure_58 : decode cX2_measure 58 = .ok (.aaload, 1) := by decide +kernel
theorem dX2_measure_59 : decode cX2_measure 59 = .ok (.iconst 0, 1) := by decide +kernel
theorem dX2_measure_60 : decode cX2_measure 60 = .ok (.bipush 16, 2) := by decide +kernel
theorem dX2_measure_62 : decode cX2_measure 62 = .ok (.invokestatic 65, 3) := by decide +kernel
theorem dX2_measure_65 : decode cX2_measure 65 = .ok (.iconst 0, 1) := by decide +kernel
theorem dX2_measure_66 : decode cX2_measure 66 = .ok (.istore_n 3, 1) := by decide +kernel
theorem dX2_measure_67 : decode cX2_measure 67 = .ok (.iconst 0, 1) := by decide +kernel
theorem dX2_measure_68 : decode cX2_measure 68 = .ok (.istore 5, 2) := by decide +kernel
theorem dX2_measure_70 : decode cX2_measure 70 = .ok (.iload 5, 2) := by decide +kernel
theorem dX2_measure_72 : decode cX2_measure 72 = .ok (.aload_n 0, 1) := by decide +kernel
theorem dX2_measure_73 : decode cX2_measure 73 = .ok (.getfield 33, 3) := by decide +kernel
theorem dX2_measure_76 : decode cX2_measure 76 = .ok (.if_icmp .ge 101, 3) := by decide +kernel
theorem dX2_measure_79 : decode cX2_measure 79 = .ok (.aload_n 0, 1) := by decide +kernel
theorem dX2_measure_80 : decode cX2_measure 80 = .ok (.getfield 26, 3) := by decide +kernel
theorem dX2_measure_83 : decode cX2_measure 83 = .ok (.iload 4, 2) := by decide +kernel
theorem dX2_measure_85 : decode cX2_measure 85 = .ok (.iconst 1, 1) := by decide +kernel
theorem dX2_measure_86 : decode cX2_measure 86 = .ok (.isub, 1) := by decide +kernel
theorem dX2_measure_87 : decode cX2_measure 87 = .ok (.aaload, 1) := by decide +kernel
theorem dX2_measure_88 : decode cX2_measure 88 = .ok (.aload_n 0, 1) := by decide +kernel
theorem dX2_measure_89 : decode cX2_measure 89 = .ok (.getfield 15, 3) := by decide +kernel
theorem dX2_measure_92 : decode cX2_measure 92 = .ok (.iload 5, 2) := by decide +kernel
theorem dX2_measure_94 : decode cX2_measure 94 = .ok (.iaload, 1) := by decide +kernel
theorem dX2_measure_95 : decode cX2_measure 95 = .ok (.laload, 1) := by decide +kernel
theorem dX2_measure_96 : decode cX2_measure 96 = .ok (.lstore 6, 2) := by decide +kernel
theorem dX2_measure_98 : decode cX2_measure 98 = .ok (.iload 5, 2) := by decide +kernel
theorem dX2_measure_100 : decode cX2_measure 100 = .ok (.iload_n 2, 1) := by decide +kernel
theorem dX2_measure_101 : decode cX2_measure 101 = .ok (.if_icmp .eq 70, 3) := by decide +kernel
theorem dX2_measure_104 : decode cX2_measure 104 = .ok (.lload 6, 2) := by decide +kernel
theorem dX2_measure_106 : decode cX2_measure 106 = .ok (.ldc2_w 57, 3) := by decide +kernel
theorem dX2_measure_109 : decode cX2_measure 109 = .ok (.lcmp, 1) := by decide +kernel
theorem dX2_measure_110 : decode cX2_measure 110 = .ok (.ifCond .eq 61, 3) := by decide +kernel
theorem dX2_measure_113 : decode cX2_measure 113 = .ok (.aload_n 0, 1) := by decide +kernel
theorem dX2_measure_114 : decode cX2_measure 114 = .ok (.getfield 18, 3) := by decide +kernel
theorem dX2_measure_117 : decode cX2_measure 117 = .ok (.iload 5, 2) := by decide +kernel
theorem dX2_measure_119 : decode cX2_measure 119 = .ok (.iaload, 1) := by decide +kernel
theorem dX2_measure_120 : decode cX2_measure 120 = .ok (.i2l, 1) := by decide +kernel
theorem dX2_measure_121 : decode cX2_measure 121 = .ok (.lload 6, 2) := by decide +kernel
theorem dX2_measure_123 : decode cX2_measure 123 = .ok (.ladd, 1) := by decide +kernel
theorem dX2_measure_124 : decode cX2_measure 124 = .ok (.aload_n 0, 1) := by decide +kernel
theorem dX2_measure_125 : decode cX2_measure 125 = .ok (.getfield 26, 3) := by decide +kernel
theorem dX2_measure_128 : decode cX2_measure 128 = .ok (.iload 4, 2) := by decide +kernel
theorem dX2_measure_130 : decode cX2_measure 130 = .ok (.aaload, 1) := by decide +kernel
theorem dX2_measure_131 : decode cX2_measure 131 = .ok (.aload_n 0, 1) := by decide +kernel
theorem dX2_measure_132 : decode cX2_measure 132 = .ok (.getfield 9, 3) := by decide +kernel
theorem dX2_measure_135 : decode cX2_measure 135 = .ok (.iload 5, 2) := by decide +kernel
theorem dX2_measure_137 : decode cX2_measure 137 = .ok (.iaload, 1) := by decide +kernel
theorem dX2_measure_138 : decode cX2_measure 138 = .ok (.laload, 1) := by decide +kernel
theorem dX2_measure_139 : decode cX2_measure 139 = .ok (.lcmp, 1) := by decide +kernel
theorem dX2_measure_140 : decode cX2_measure 140 = .ok (.ifCond .ge 31, 3) := by decide +kernel
theorem dX2_measure_143 : decode cX2_measure 143 = .ok (.aload_n 0, 1) := by decide +kernel
theorem dX2_measure_144 : decode cX2_measure 144 = .ok (.getfield 26, 3) := by decide +kernel
theorem dX2_measure_147 : decode cX2_measure 147 = .ok (.iload 4, 2) := by decide +kernel
theorem dX2_measure_149 : decode cX2_measure 149 = .ok (.aaload, 1) := by decide +kernel
theorem dX2_measure_150 : decode cX2_measure 150 = .ok (.aload_n 0, 1) := by decide +kernel
theorem dX2_measure_151 : decode cX2_measure 151 = .ok (.getfield 9, 3) := by decide +kernel
theorem dX2_measure_154 : decode cX2_measure 154 = .ok (.iload 5, 2) := by decide +kernel
theorem dX2_measure_156 : decode cX2_measure 156 = .ok (.iaload, 1) := by decide +kernel
theorem dX2_measure_157 : decode cX2_measure 157 = .ok (.aload_n 0, 1) := by decide +kernel
theorem dX2_measure_158 : decode cX2_measure 158 = .ok (.getfield 18, 3) := by decide +kernel
theorem dX2_measure_161 : decode cX2_measure 161 = .ok (.iload 5, 2) := by decide +kernel
theorem dX2_measure_163 : decode cX2_measure 163 = .ok (.iaload, 1) := by decide +kernel
theorem dX2_measure_164 : decode cX2_measure 164 = .ok (.i2l, 1) := by decide +kernel
theorem dX2_measure_165 : decode cX2_measure 165 = .ok (.lload 6, 2) := by decide +kernel
theorem dX2_measure_167 : decode cX2_measure 167 = .ok (.ladd, 1) := by decide +kernel
theorem dX2_measure_168 : decode cX2_measure 168 = .ok (.lastore, 1) := by decide +kernel
theorem dX2_measure_169 : decode cX2_measure 169 = .ok (.iconst 1, 1) := by decide +kernel
theorem dX2_measure_170 : decode cX2_measure 170 = .ok (.istore_n 3, 1) := by decide +kernel
theorem dX2_measure_171 : decode cX2_measure 171 = .ok (.iinc 5 1, 3) := by decide +kernel
theorem dX2_measure_174 : decode cX2_measure 174 = .ok (.goto (-104), 3) := by decide +kernel
theorem dX2_measure_177 : decode cX2_measure 177 = .ok (.aload_n 0, 1) := by decide +kernel
theorem dX2_measure_178 : decode cX2_measure 178 = .ok (.iload 4, 2) := by decide +kernel
theorem dX2_measure_180 : decode cX2_measure 180 = .ok (.putfield 47, 3) := by decide +kernel
theorem dX2_measure_183 : decode cX2_measure 183 = .ok (.iinc 4 1, 3) := by decide +kernel
theorem dX2_measure_186 : decode cX2_measure 186 = .ok (.goto (-155), 3) := by decide +kernel
theorem dX2_measure_189 : decode cX2_measure 189 = .ok (.return_, 1) := by decide +kernel
theorem dX2_valueOf_0 : decode cX2_valueOf 0 = .ok (.aload_n 0, 1) := by decide +kernel
theorem dX2_valueOf_1 : decode cX2_valueOf 1 = .ok (.getfield 29, 3) := by decide +kernel
theorem dX2_valueOf_4 : decode cX2_valueOf 4 = .ok (.lconst 0, 1) := by decide +kernel
theorem dX2_valueOf_5 : decode cX2_valueOf 5 = .ok (.invokestatic 59, 3) := by decide +kernel
theorem dX2_valueOf_8 : decode cX2_valueOf 8 = .ok (.iconst 1, 1) := by decide +kernel
theorem dX2_valueOf_9 : decode cX2_valueOf 9 = .ok (.istore_n 2, 1) := by decide +kernel
theorem dX2_valueOf_10 : decode cX2_valueOf 10 = .ok (.iconst 0, 1) := by decide +kernel
theorem dX2_valueOf_11 : decode cX2_valueOf 11 = .ok (.istore_n 3, 1) := by decide +kernel
theorem dX2_valueOf_12 : decode cX2_valueOf 12 = .ok (.iload_n 3, 1) := by decide +kernel
theorem dX2_valueOf_13 : decode cX2_valueOf 13 = .ok (.bipush 16, 2) := by decide +kernel
theorem dX2_valueOf_15 : decode cX2_valueOf 15 = .ok (.if_icmp .ge 105, 3) := by decide +kernel
theorem dX2_valueOf_18 : decode cX2_valueOf 18 = .ok (.iload_n 2, 1) := by decide +kernel
theorem dX2_valueOf_19 : decode cX2_valueOf 19 = .ok (.ifCond .eq 101, 3) := by decide +kernel
theorem dX2_valueOf_22 : decode cX2_valueOf 22 = .ok (.iconst 0, 1) := by decide +kernel
theorem dX2_valueOf_23 : decode cX2_valueOf 23 = .ok (.istore_n 2, 1) := by decide +kernel
theorem dX2_valueOf_24 : decode cX2_valueOf 24 = .ok (.iconst 0, 1) := by decide +kernel
theorem dX2_valueOf_25 : decode cX2_valueOf 25 = .ok (.istore 4, 2) := by decide +kernel
theorem dX2_valueOf_27 : decode cX2_valueOf 27 = .ok (.iload 4, 2) := by decide +kernel
theorem dX2_valueOf_29 : decode cX2_valueOf 29 = .ok (.aload_n 0, 1) := by decide +kernel
theorem dX2_valueOf_30 : decode cX2_valueOf 30 = .ok (.getfield 33, 3) := by decide +kernel
theorem dX2_valueOf_33 : decode cX2_valueOf 33 = .ok (.if_icmp .ge 81, 3) := by decide +kernel
theorem dX2_valueOf_36 : decode cX2_valueOf 36 = .ok (.aload_n 0, 1) := by decide +kernel
theorem dX2_valueOf_37 : decode cX2_valueOf 37 = .ok (.getfield 29, 3) := by decide +kernel
theorem dX2_valueOf_40 : decode cX2_valueOf 40 = .ok (.aload_n 0, 1) := by decide +kernel
theorem dX2_valueOf_41 : decode cX2_valueOf 41 = .ok (.getfield 15, 3) := by decide +kernel
theorem dX2_valueOf_44 : decode cX2_valueOf 44 = .ok (.iload 4, 2) := by decide +kernel
theorem dX2_valueOf_46 : decode cX2_valueOf 46 = .ok (.iaload, 1) := by decide +kernel
theorem dX2_valueOf_47 : decode cX2_valueOf 47 = .ok (.laload, 1) := by decide +kernel
theorem dX2_valueOf_48 : decode cX2_valueOf 48 = .ok (.aload_n 0, 1) := by decide +kernel
theorem dX2_valueOf_49 : decode cX2_valueOf 49 = .ok (.getfield 18, 3) := by decide +kernel
theorem dX2_valueOf_52 : decode cX2_valueOf 52 = .ok (.iload 4, 2) := by decide +kernel
theorem dX2_valueOf_54 : decode cX2_valueOf 54 = .ok (.iaload, 1) := by decide +kernel
theorem dX2_valueOf_55 : decode cX2_valueOf 55 = .ok (.i2l, 1) := by decide +kernel
theorem dX2_valueOf_56 : decode cX2_valueOf 56 = .ok (.ladd, 1) := by decide +kernel
theorem dX2_valueOf_57 : decode cX2_valueOf 57 = .ok (.aload_n 0, 1) := by decide +kernel
theorem dX2_valueOf_58 : decode cX2_valueOf 58 = .ok (.getfield 29, 3) := by decide +kernel
theorem dX2_valueOf_61 : decode cX2_valueOf 61 = .ok (.aload_n 0, 1) := by decide +kernel
theorem dX2_valueOf_62 : decode cX2_valueOf 62 = .ok (.getfield 9, 3) := by decide +kernel
theorem dX2_valueOf_65 : decode cX2_valueOf 65 = .ok (.iload 4, 2) := by decide +kernel
theorem dX2_valueOf_67 : decode cX2_valueOf 67 = .ok (.iaload, 1) := by decide +kernel
theorem dX2_valueOf_68 : decode cX2_valueOf 68 = .ok (.laload, 1) := by decide +kernel
theorem dX2_valueOf_69 : decode cX2_valueOf 69 = .ok (.lcmp, 1) := by decide +kernel
theorem dX2_valueOf_70 : decode cX2_valueOf 70 = .ok (.ifCond .ge 38, 3) := by decide +kernel
theorem dX2_valueOf_73 : decode cX2_valueOf 73 = .ok (.aload_n 0, 1) := by decide +kernel
theorem dX2_valueOf_74 : decode cX2_valueOf 74 = .ok (.getfield 29, 3) := by decide +kernel
theorem dX2_valueOf_77 : decode cX2_valueOf 77 = .ok (.aload_n 0, 1) := by decide +kernel
theorem dX2_valueOf_78 : decode cX2_valueOf 78 = .ok (.getfield 9, 3) := by decide +kernel
theorem dX2_valueOf_81 : decode cX2_valueOf 81 = .ok (.iload 4, 2) := by decide +kernel
theorem dX2_valueOf_83 : decode cX2_valueOf 83 = .ok (.iaload, 1) := by decide +kernel
theorem dX2_valueOf_84 : decode cX2_valueOf 84 = .ok (.aload_n 0, 1) := by decide +kernel
theorem dX2_valueOf_85 : decode cX2_valueOf 85 = .ok (.getfield 29, 3) := by decide +kernel
theorem dX2_valueOf_88 : decode cX2_valueOf 88 = .ok (.aload_n 0, 1) := by decide +kernel
theorem dX2_valueOf_89 : decode cX2_valueOf 89 = .ok (.getfield 15, 3) := by decide +kernel
theorem dX2_valueOf_92 : decode cX2_valueOf 92 = .ok (.iload 4, 2) := by decide +kernel
theorem dX2_valueOf_94 : decode cX2_valueOf 94 = .ok (.iaload, 1) := by decide +kernel
theorem dX2_valueOf_95 : decode cX2_valueOf 95 = .ok (.laload, 1) := by decide +kernel
theorem dX2_valueOf_96 : decode cX2_valueOf 96 = .ok (.aload_n 0, 1) := by decide +kernel
theorem dX2_valueOf_97 : decode cX2_valueOf 97 = .ok (.getfield 18, 3) := by decide +kernel
theorem dX2_valueOf_100 : decode cX2_valueOf 100 = .ok (.iload 4, 2) := by decide +kernel
theorem dX2_valueOf_102 : decode cX2_valueOf 102 = .ok (.iaload, 1) := by decide +kernel
theorem dX2_valueOf_103 : decode cX2_valueOf 103 = .ok (.i2l, 1) := by decide +kernel
theorem dX2_valueOf_104 : decode cX2_valueOf 104 = .ok (.ladd, 1) := by decide +kernel
theorem dX2_valueOf_105 : decode cX2_valueOf 105 = .ok (.lastore, 1) := by decide +kernel
theorem dX2_valueOf_106 : decode cX2_valueOf 106 = .ok (.iconst 1, 1) := by decide +kernel
theorem dX2_valueOf_107 : decode cX2_valueOf 107 = .ok (.istore_n 2, 1) := by decide +kernel
theorem dX2_valueOf_108 : decode cX2_valueOf 108 = .ok (.iinc 4 1, 3) := by decide +kernel
theorem dX2_valueOf_111 : decode cX2_valueOf 111 = .ok (.goto (-84), 3) := by decide +kernel
theorem dX2_valueOf_114 : decode cX2_valueOf 114 = .ok (.iinc 3 1, 3) := by decide +kernel
theorem dX2_valueOf_117 : decode cX2_valueOf 117 = .ok (.goto (-105), 3) := by decide +kernel
theorem dX2_valueOf_120 : decode cX2_valueOf 120 = .ok (.aload_n 0, 1) := by decide +kernel
theorem dX2_valueOf_121 : decode cX2_valueOf 121 = .ok (.getfield 29, 3) := by decide +kernel
theorem dX2_valueOf_124 : decode cX2_valueOf 124 = .ok (.iload_n 1, 1) := by decide +kernel
theorem dX2_valueOf_125 : decode cX2_valueOf 125 = .ok (.laload, 1) := by decide +kernel
theorem dX2_valueOf_126 : decode cX2_valueOf 126 = .ok (.aload_n 0, 1) := by decide +kernel
theorem dX2_valueOf_127 : decode cX2_valueOf 127 = .ok (.getfield 29, 3) := by decide +kernel
theorem dX2_valueOf_130 : decode cX2_valueOf 130 = .ok (.iconst 0, 1) := by decide +kernel
theorem dX2_valueOf_131 : decode cX2_valueOf 131 = .ok (.laload, 1) := by decide +kernel
theorem dX2_valueOf_132 : decode cX2_valueOf 132 = .ok (.lsub, 1) := by decide +kernel
theorem dX2_valueOf_133 : decode cX2_valueOf 133 = .ok (.lreturn, 1) := by decide +kernel
theorem dX3_init_0 : decode cX3_init 0 = .ok (.aload_n 0, 1) := by decide +kernel
theorem dX3_init_1 : decode cX3_init 1 = .ok (.invokespecial 3, 3) := by decide +kernel
theorem dX3_init_4 : decode cX3_init 4 = .ok (.aload_n 0, 1) := by decide +kernel
theorem dX3_init_5 : decode cX3_init 5 = .ok (.bipush 64, 2) := by decide +kernel
theorem dX3_init_7 : decode cX3_init 7 = .ok (.newarray .int, 2) := by decide +kernel
theorem dX3_init_9 : decode cX3_init 9 = .ok (.putfield 9, 3) := by decide +kernel
theorem dX3_init_12 : decode cX3_init 12 = .ok (.aload_n 0, 1) := by decide +kernel
theorem dX3_init_13 : decode cX3_init 13 = .ok (.new 15, 3) := by decide +kernel
theorem dX3_init_16 : decode cX3_init 16 = .ok (.dup, 1) := by decide +kernel
theorem dX3_init_17 : decode cX3_init 17 = .ok (.aload_n 1, 1) := by decide +kernel
theorem dX3_init_18 : decode cX3_init 18 = .ok (.invokespecial 17, 3) := by decide +kernel
theorem dX3_init_21 : decode cX3_init 21 = .ok (.putfield 20, 3) := by decide +kernel
theorem dX3_init_24 : decode cX3_init 24 = .ok (.aload_n 0, 1) := by decide +kernel
theorem dX3_init_25 : decode cX3_init 25 = .ok (.aload_n 2, 1) := by decide +kernel
theorem dX3_init_26 : decode cX3_init 26 = .ok (.putfield 24, 3) := by decide +kernel
theorem dX3_init_29 : decode cX3_init 29 = .ok (.return_, 1) := by decide +kernel
theorem dX3_readFormula_0 : decode cX3_readFormula 0 = .ok (.aload_n 0, 1) := by decide +kernel
theorem dX3_readFormula_1 : decode cX3_readFormula 1 = .ok (.invokevirtual 28, 3) := by decide +kernel
theorem dX3_readFormula_4 : decode cX3_readFormula 4 = .ok (.iconst 1, 1) := by decide +kernel
theorem dX3_readFormula_5 : decode cX3_readFormula 5 = .ok (.istore_n 1, 1) := by decide +kernel
theorem dX3_readFormula_6 : decode cX3_readFormula 6 = .ok (.iload_n 1, 1) := by decide +kernel
theorem dX3_readFormula_7 : decode cX3_readFormula 7 = .ok (.bipush 101, 2) := by decide +kernel
theorem dX3_readFormula_9 : decode cX3_readFormula 9 = .ok (.if_icmp .gt 52, 3) := by decide +kernel
theorem dX3_readFormula_12 : decode cX3_readFormula 12 = .ok (.aload_n 0, 1) := by decide +kernel
theorem dX3_readFormula_13 : decode cX3_readFormula 13 = .ok (.getfield 20, 3) := by decide +kernel
theorem dX3_readFormula_16 : decode cX3_readFormula 16 = .ok (.invokevirtual 31, 3) := by decide +kernel
theorem dX3_readFormula_19 : decode cX3_readFormula 19 = .ok (.aload_n 0, 1) := by decide +kernel
theorem dX3_readFormula_20 : decode cX3_readFormula 20 = .ok (.getfield 20, 3) := by decide +kernel
theorem dX3_readFormula_23 : decode cX3_readFormula 23 = .ok (.getfield 34, 3) := by decide +kernel
theorem dX3_readFormula_26 : decode cX3_readFormula 26 = .ok (.sipush 261, 3) := by decide +kernel
theorem dX3_readFormula_29 : decode cX3_readFormula 29 = .ok (.if_icmp .ne 8, 3) := by decide +kernel
theorem dX3_readFormula_32 : decode cX3_readFormula 32 = .ok (.aload_n 0, 1) := by decide +kernel
theorem dX3_readFormula_33 : decode cX3_readFormula 33 = .ok (.invokevirtual 38, 3) := by decide +kernel
theorem dX3_readFormula_36 : decode cX3_readFormula 36 = .ok (.ireturn, 1) := by decide +kernel
theorem dX3_readFormula_37 : decode cX3_readFormula 37 = .ok (.aload_n 0, 1) := by decide +kernel
theorem dX3_readFormula_38 : decode cX3_readFormula 38 = .ok (.aload_n 0, 1) := by decide +kernel
theorem dX3_readFormula_39 : decode cX3_readFormula 39 = .ok (.getfield 20, 3) := by decide +kernel
theorem dX3_readFormula_42 : decode cX3_readFormula 42 = .ok (.getfield 34, 3) := by decide +kernel
theorem dX3_readFormula_45 : decode cX3_readFormula 45 = .ok (.invokevirtual 42, 3) := by decide +kernel
theorem dX3_readFormula_48 : decode cX3_readFormula 48 = .ok (.istore_n 2, 1) := by decide +kernel
theorem dX3_readFormula_49 : decode cX3_readFormula 49 = .ok (.iload_n 2, 1) := by decide +kernel
theorem dX3_readFormula_50 : decode cX3_readFormula 50 = .ok (.ifCond .eq 5, 3) := by decide +kernel
theorem dX3_readFormula_53 : decode cX3_readFormula 53 = .ok (.iload_n 2, 1) := by decide +kernel
theorem dX3_readFormula_54 : decode cX3_readFormula 54 = .ok (.ireturn, 1) := by decide +kernel
theorem dX3_readFormula_55 : decode cX3_readFormula 55 = .ok (.iinc 1 1, 3) := by decide +kernel
theorem dX3_readFormula_58 : decode cX3_readFormula 58 = .ok (.goto (-52), 3) := by decide +kernel
theorem dX3_readFormula_61 : decode cX3_readFormula 61 = .ok (.iconst 5, 1) := by decide +kernel
theorem dX3_readFormula_62 : decode cX3_readFormula 62 = .ok (.ireturn, 1) := by decide +kernel
theorem dX3_begin_0 : decode cX3_begin 0 = .ok (.aload_n 0, 1) := by decide +kernel
theorem dX3_begin_1 : decode cX3_begin 1 = .ok (.getfield 20, 3) := by decide +kernel
theorem dX3_begin_4 : decode cX3_begin 4 = .ok (.invokevirtual 46, 3) := by decide +kernel
theorem dX3_begin_7 : decode cX3_begin 7 = .ok (.aload_n 0, 1) := by decide +kernel
theorem dX3_begin_8 : decode cX3_begin 8 = .ok (.getfield 24, 3) := by decide +kernel
theorem dX3_begin_11 : decode cX3_begin 11 = .ok (.invokevirtual 49, 3) := by decide +kernel
theorem dX3_begin_14 : decode cX3_begin 14 = .ok (.aload_n 0, 1) := by decide +kernel
theorem dX3_begin_15 : decode cX3_begin 15 = .ok (.iconst 0, 1) := by decide +kernel
theorem dX3_begin_16 : decode cX3_begin 16 = .ok (.putfield 54, 3) := by decide +kernel
theorem dX3_begin_19 : decode cX3_begin 19 = .ok (.aload_n 0, 1) := by decide +kernel
theorem dX3_begin_20 : decode cX3_begin 20 = .ok (.iconst 0, 1) := by decide +kernel
theorem dX3_begin_21 : decode cX3_begin 21 = .ok (.putfield 57, 3) := by decide +kernel
theorem dX3_begin_24 : decode cX3_begin 24 = .ok (.aload_n 0, 1) := by decide +kernel
theorem dX3_begin_25 : decode cX3_begin 25 = .ok (.iconst 0, 1) := by decide +kernel
theorem dX3_begin_26 : decode cX3_begin 26 = .ok (.putfield 60, 3) := by decide +kernel
theorem dX3_begin_29 : decode cX3_begin 29 = .ok (.aload_n 0, 1) := by decide +kernel
theorem dX3_begin_30 : decode cX3_begin 30 = .ok (.iconst 0, 1) := by decide +kernel
theorem dX3_begin_31 : decode cX3_begin 31 = .ok (.putfield 63, 3) := by decide +kernel
theorem dX3_begin_34 : decode cX3_begin 34 = .ok (.return_, 1) := by decide +kernel
theorem dX3_finish_0 : decode cX3_finish 0 = .ok (.aload_n 0, 1) := by decide +kernel
theorem dX3_finish_1 : decode cX3_finish 1 = .ok (.getfield 63, 3) := by decide +kernel
theorem dX3_finish_4 : decode cX3_finish 4 = .ok (.bipush 6, 2) := by decide +kernel
theorem dX3_finish_6 : decode cX3_finish 6 = .ok (.if_icmp .ne 10, 3) := by decide +kernel
theorem dX3_finish_9 : decode cX3_finish 9 = .ok (.aload_n 0, 1) := by decide +kernel
theorem dX3_finish_10 : decode cX3_finish 10 = .ok (.getfield 60, 3) := by decide +kernel
theorem dX3_finish_13 : decode cX3_finish 13 = .ok (.ifCond .le 5, 3) := by decide +kernel
theorem dX3_finish_16 : decode cX3_finish 16 = .ok (.iconst 2, 1) := by decide +kernel
theorem dX3_finish_17 : decode cX3_finish 17 = .ok (.ireturn, 1) := by decide +kernel
theorem dX3_finish_18 : decode cX3_finish 18 = .ok (.aload_n 0, 1) := by decide +kernel
theorem dX3_finish_19 : decode cX3_finish 19 = .ok (.invokevirtual 66, 3) := by decide +kernel
theorem dX3_finish_22 : decode cX3_finish 22 = .ok (.iconst 0, 1) := by decide +kernel
theorem dX3_finish_23 : decode cX3_finish 23 = .ok (.ireturn, 1) := by decide +kernel
theorem dX3_take_0 : decode cX3_take 0 = .ok (.iload_n 1, 1) := by decide +kernel
theorem dX3_take_1 : decode cX3_take 1 = .ok (.sipush 262, 3) := by decide +kernel
theorem dX3_take_4 : decode cX3_take 4 = .ok (.if_icmp .ne 5, 3) := by decide +kernel
theorem dX3_take_7 : decode cX3_take 7 = .ok (.iconst 1, 1) := by decide +kernel
theorem dX3_take_8 : decode cX3_take 8 = .ok (.ireturn, 1) := by decide +kernel
theorem dX3_take_9 : decode cX3_take 9 = .ok (.aload_n 0, 1) := by decide +kernel
theorem dX3_take_10 : decode cX3_take 10 = .ok (.getfield 63, 3) := by decide +kernel
theorem dX3_take_13 : decode cX3_take 13 = .ok (.tableswitch 61 0 6 #[43, 61, 61, 61, 55, 55, 49], 43) := by decide +kernel
theorem dX3_take_56 : decode cX3_take 56 = .ok (.aload_n 0, 1) := by decide +kernel
theorem dX3_take_57 : decode cX3_take 57 = .ok (.iload_n 1, 1) := by decide +kernel
theorem dX3_take_58 : decode cX3_take 58 = .ok (.invokevirtual 69, 3) := by decide +kernel
theorem dX3_take_61 : decode cX3_take 61 = .ok (.ireturn, 1) := by decide +kernel
theorem dX3_take_62 : decode cX3_take 62 = .ok (.aload_n 0, 1) := by decide +kernel
theorem dX3_take_63 : decode cX3_take 63 = .ok (.iload_n 1, 1) := by decide +kernel
theorem dX3_take_64 : decode cX3_take 64 = .ok (.invokevirtual 72, 3) := by decide +kernel
theorem dX3_take_67 : decode cX3_take 67 = .ok (.ireturn, 1) := by decide +kernel
theorem dX3_take_68 : decode cX3_take 68 = .ok (.aload_n 0, 1) := by decide +kernel
theorem dX3_take_69 : decode cX3_take 69 = .ok (.iload_n 1, 1) := by decide +kernel
theorem dX3_take_70 : decode cX3_take 70 = .ok (.invokevirtual 75, 3) := by decide +kernel
theorem dX3_take_73 : decode cX3_take 73 = .ok (.ireturn, 1) := by decide +kernel
theorem dX3_take_74 : decode cX3_take 74 = .ok (.aload_n 0, 1) := by decide +kernel
theorem dX3_take_75 : decode cX3_take 75 = .ok (.iload_n 1, 1) := by decide +kernel
theorem dX3_take_76 : decode cX3_take 76 = .ok (.invokevirtual 78, 3) := by decide +kernel
theorem dX3_take_79 : decode cX3_take 79 = .ok (.ireturn, 1) := by decide +kernel
theorem dX3_takeUnit_0 : decode cX3_takeUnit 0 = .ok (.iload_n 1, 1) := by decide +kernel
theorem dX3_takeUnit_1 : decode cX3_takeUnit 1 = .ok (.sipush 259, 3) := by decide +kernel
theorem dX3_takeUnit_4 : decode cX3_takeUnit 4 = .ok (.if_icmp .ne 31, 3) := by decide +kernel
theorem dX3_takeUnit_7 : decode cX3_takeUnit 7 = .ok (.aload_n 0, 1) := by decide +kernel
theorem dX3_takeUnit_8 : decode cX3_takeUnit 8 = .ok (.aload_n 0, 1) := by decide +kernel
theorem dX3_takeUnit_9 : decode cX3_takeUnit 9 = .ok (.getfield 20, 3) := by decide +kernel
theorem dX3_takeUnit_12 : decode cX3_takeUnit 12 = .ok (.getfield 81, 3) := by decide +kernel
theorem dX3_takeUnit_15 : decode cX3_takeUnit 15 = .ok (.putfield 84, 3) := by decide +kernel
theorem dX3_takeUnit_18 : decode cX3_takeUnit 18 = .ok (.aload_n 0, 1) := by decide +kernel
theorem dX3_takeUnit_19 : decode cX3_takeUnit 19 = .ok (.iconst 0, 1) := by decide +kernel
theorem dX3_takeUnit_20 : decode cX3_takeUnit 20 = .ok (.putfield 87, 3) := by decide +kernel
theorem dX3_takeUnit_23 : decode cX3_takeUnit 23 = .ok (.aload_n 0, 1) := by decide +kernel
theorem dX3_takeUnit_24 : decode cX3_takeUnit 24 = .ok (.iconst 0, 1) := by decide +kernel
theorem dX3_takeUnit_25 : decode cX3_takeUnit 25 = .ok (.putfield 90, 3) := by decide +kernel
theorem dX3_takeUnit_28 : decode cX3_takeUnit 28 = .ok (.aload_n 0, 1) := by decide +kernel
theorem dX3_takeUnit_29 : decode cX3_takeUnit 29 = .ok (.iconst 1, 1) := by decide +kernel
theorem dX3_takeUnit_30 : decode cX3_takeUnit 30 = .ok (.putfield 63, 3) := by decide +kernel
theorem dX3_takeUnit_33 : decode cX3_takeUnit 33 = .ok (.iconst 0, 1) := by decide +kernel
theorem dX3_takeUnit_34 : decode cX3_takeUnit 34 = .ok (.ireturn, 1) := by decide +kernel
theorem dX3_takeUnit_35 : decode cX3_takeUnit 35 = .ok (.iload_n 1, 1) := by decide +kernel
theorem dX3_takeUnit_36 : decode cX3_takeUnit 36 = .ok (.bipush 40, 2) := by decide +kernel
theorem dX3_takeUnit_38 : decode cX3_takeUnit 38 = .ok (.if_icmp .eq 9, 3) := by decide +kernel
theorem dX3_takeUnit_41 : decode cX3_takeUnit 41 = .ok (.iload_n 1, 1) := by decide +kernel
theorem dX3_takeUnit_42 : decode cX3_takeUnit 42 = .ok (.bipush 126, 2) := by decide +kernel
theorem dX3_takeUnit_44 : decode cX3_takeUnit 44 = .ok (.if_icmp .ne 11, 3) := by decide +kernel
theorem dX3_takeUnit_47 : decode cX3_takeUnit 47 = .ok (.aload_n 0, 1) := by decide +kernel
theorem dX3_takeUnit_48 : decode cX3_takeUnit 48 = .ok (.iload_n 1, 1) := by decide +kernel
theorem dX3_takeUnit_49 : decode cX3_takeUnit 49 = .ok (.invokevirtual 94, 3) := by decide +kernel
theorem dX3_takeUnit_52 : decode cX3_takeUnit 52 = .ok (.goto 4, 3) := by decide +kernel
theorem dX3_takeUnit_55 : decode cX3_takeUnit 55 = .ok (.iconst 2, 1) := by decide +kernel
theorem dX3_takeUnit_56 : decode cX3_takeUnit 56 = .ok (.ireturn, 1) := by decide +kernel
theorem dX3_takeDifference_0 : decode cX3_takeDifference 0 = .ok (.aload_n 0, 1) := by decide +kernel
theorem dX3_takeDifference_1 : decode cX3_takeDifference 1 = .ok (.getfield 63, 3) := by decide +kernel
theorem dX3_takeDifference_4 : decode cX3_takeDifference 4 = .ok (.iconst 2, 1) := by decide +kernel
theorem dX3_takeDifference_5 : decode cX3_takeDifference 5 = .ok (.if_icmp .ne 30, 3) := by decide +kernel
theorem dX3_takeDifference_8 : decode cX3_takeDifference 8 = .ok (.iload_n 1, 1) := by decide +kernel
theorem dX3_takeDifference_9 : decode cX3_takeDifference 9 = .ok (.sipush 259, 3) := by decide +kernel
theorem dX3_takeDifference_12 : decode cX3_takeDifference 12 = .ok (.if_icmp .eq 5, 3) := by decide +kernel
theorem dX3_takeDifference_15 : decode cX3_takeDifference 15 = .ok (.iconst 2, 1) := by decide +kernel
theorem dX3_takeDifference_16 : decode cX3_takeDifference 16 = .ok (.ireturn, 1) := by decide +kernel
theorem dX3_takeDifference_17 : decode cX3_takeDifference 17 = .ok (.aload_n 0, 1) := by decide +kernel
theorem dX3_takeDifference_18 : decode cX3_takeDifference 18 = .ok (.aload_n 0, 1) := by decide +kernel
theorem dX3_takeDifference_19 : decode cX3_takeDifference 19 = .ok (.getfield 20, 3) := by decide +kernel
theorem dX3_takeDifference_22 : decode cX3_takeDifference 22 = .ok (.getfield 81, 3) := by decide +kernel
theorem dX3_takeDifference_25 : decode cX3_takeDifference 25 = .ok (.putfield 87, 3) := by decide +kernel
theorem dX3_takeDifference_28 : decode cX3_takeDifference 28 = .ok (.aload_n 0, 1) := by decide +kernel
theorem dX3_takeDifference_29 : decode cX3_takeDifference 29 = .ok (.iconst 3, 1) := by decide +kernel
theorem dX3_takeDifference_30 : decode cX3_takeDifference 30 = .ok (.putfield 63, 3) := by decide +kernel
theorem dX3_takeDifference_33 : decode cX3_takeDifference 33 = .ok (.iconst 0, 1) := by decide +kernel
theorem dX3_takeDifference_34 : decode cX3_takeDifference 34 = .ok (.ireturn, 1) := by decide +kernel
theorem dX3_takeDifference_35 : decode cX3_takeDifference 35 = .ok (.iload_n 1, 1) := by decide +kernel
theorem dX3_takeDifference_36 : decode cX3_takeDifference 36 = .ok (.bipush 45, 2) := by decide +kernel
theorem dX3_takeDifference_38 : decode cX3_takeDifference 38 = .ok (.if_icmp .ne 18, 3) := by decide +kernel
theorem dX3_takeDifference_41 : decode cX3_takeDifference 41 = .ok (.aload_n 0, 1) := by decide +kernel
theorem dX3_takeDifference_42 : decode cX3_takeDifference 42 = .ok (.getfield 63, 3) := by decide +kernel
theorem dX3_takeDifference_45 : decode cX3_takeDifference 45 = .ok (.iconst 1, 1) := by decide +kernel
theorem dX3_takeDifference_46 : decode cX3_takeDifference 46 = .ok (.if_icmp .ne 10, 3) := by decide +kernel
theorem dX3_takeDifference_49 : decode cX3_takeDifference 49 = .ok (.aload_n 0, 1) := by decide +kernel
theorem dX3_takeDifference_50 : decode cX3_takeDifference 50 = .ok (.iconst 2, 1) := by decide +kernel
theorem dX3_takeDifference_51 : decode cX3_takeDifference 51 = .ok (.putfield 63, 3) := by decide +kernel
theorem dX3_takeDifference_54 : decode cX3_takeDifference 54 = .ok (.iconst 0, 1) := by decide +kernel
theorem dX3_takeDifference_55 : decode cX3_takeDifference 55 = .ok (.ireturn, 1) := by decide +kernel
theorem dX3_takeDifference_56 : decode cX3_takeDifference 56 = .ok (.iload_n 1, 1) := by decide +kernel
theorem dX3_takeDifference_57 : decode cX3_takeDifference 57 = .ok (.invokestatic 97, 3) := by decide +kernel
theorem dX3_takeDifference_60 : decode cX3_takeDifference 60 = .ok (.ifCond .ne 5, 3) := by decide +kernel
theorem dX3_takeDifference_63 : decode cX3_takeDifference 63 = .ok (.iconst 2, 1) := by decide +kernel
theorem dX3_takeDifference_64 : decode cX3_takeDifference 64 = .ok (.ireturn, 1) := by decide +kernel
theorem dX3_takeDifference_65 : decode cX3_takeDifference 65 = .ok (.aload_n 0, 1) := by decide +kernel
theorem dX3_takeDifference_66 : decode cX3_takeDifference 66 = .ok (.iload_n 1, 1) := by decide +kernel
theorem dX3_takeDifference_67 : decode cX3_takeDifference 67 = .ok (.putfield 101, 3) := by decide +kernel
theorem dX3_takeDifference_70 : decode cX3_takeDifference 70 = .ok (.aload_n 0, 1) := by decide +kernel
theorem dX3_takeDifference_71 : decode cX3_takeDifference 71 = .ok (.iconst 4, 1) := by decide +kernel
theorem dX3_takeDifference_72 : decode cX3_takeDifference 72 = .ok (.putfield 63, 3) := by decide +kernel
theorem dX3_takeDifference_75 : decode cX3_takeDifference 75 = .ok (.iconst 0, 1) := by decide +kernel
theorem dX3_takeDifference_76 : decode cX3_takeDifference 76 = .ok (.ireturn, 1) := by decide +kernel
theorem dX3_isRelation_0 : decode cX3_isRelation 0 = .ok (.iload_n 0, 1) := by decide +kernel
theorem dX3_isRelation_1 : decode cX3_isRelation 1 = .ok (.sipush 256, 3) := by decide +kernel
theorem dX3_isRelation_4 : decode cX3_isRelation 4 = .ok (.if_icmp .eq 34, 3) := by decide +kernel
theorem dX3_isRelation_7 : decode cX3_isRelation 7 = .ok (.iload_n 0, 1) := by decide +kernel
theorem dX3_isRelation_8 : decode cX3_isRelation 8 = .ok (.bipush 60, 2) := by decide +kernel
theorem dX3_isRelation_10 : decode cX3_isRelation 10 = .ok (.if_icmp .eq 28, 3) := by decide +kernel
theorem dX3_isRelation_13 : decode cX3_isRelation 13 = .ok (.iload_n 0, 1) := by decide +kernel
theorem dX3_isRelation_14 : decode cX3_isRelation 14 = .ok (.sipush 257, 3) := by decide +kernel
theorem dX3_isRelation_17 : decode cX3_isRelation 17 = .ok (.if_icmp .eq 21, 3) := by decide +kernel
theorem dX3_isRelation_20 : decode cX3_isRelation 20 = .ok (.iload_n 0, 1) := by decide +kernel
theorem dX3_isRelation_21 : decode cX3_isRelation 21 = .ok (.bipush 62, 2) := by decide +kernel
theorem dX3_isRelation_23 : decode cX3_isRelation 23 = .ok (.if_icmp .eq 15, 3) := by decide +kernel
theorem dX3_isRelation_26 : decode cX3_isRelation 26 = .ok (.iload_n 0, 1) := by decide +kernel
theorem dX3_isRelation_27 : decode cX3_isRelation 27 = .ok (.bipush 61, 2) := by decide +kernel
theorem dX3_isRelation_29 : decode cX3_isRelation 29 = .ok (.if_icmp .eq 9, 3) := by decide +kernel
theorem dX3_isRelation_32 : decode cX3_isRelation 32 = .ok (.iload_n 0, 1) := by decide +kernel
theorem dX3_isRelation_33 : decode cX3_isRelation 33 = .ok (.bipush 35, 2) := by decide +kernel
theorem dX3_isRelation_35 : decode cX3_isRelation 35 = .ok (.if_icmp .ne 7, 3) := by decide +kernel
theorem dX3_isRelation_38 : decode cX3_isRelation 38 = .ok (.iconst 1, 1) := by decide +kernel
theorem dX3_isRelation_39 : decode cX3_isRelation 39 = .ok (.goto 4, 3) := by decide +kernel
theorem dX3_isRelation_42 : decode cX3_isRelation 42 = .ok (.iconst 0, 1) := by decide +kernel
theorem dX3_isRelation_43 : decode cX3_isRelation 43 = .ok (.ireturn, 1) := by decide +kernel
theorem dX3_takeInt_0 : decode cX3_takeInt 0 = .ok (.iload_n 1, 1) := by decide +kernel
theorem dX3_takeInt_1 : decode cX3_takeInt 1 = .ok (.bipush 45, 2) := by decide +kernel
theorem dX3_takeInt_3 : decode cX3_takeInt 3 = .ok (.if_icmp .ne 23, 3) := by decide +kernel
theorem dX3_takeInt_6 : decode cX3_takeInt 6 = .ok (.aload_n 0, 1) := by decide +kernel
theorem dX3_takeInt_7 : decode cX3_takeInt 7 = .ok (.getfield 63, 3) := by decide +kernel
theorem dX3_takeInt_10 : decode cX3_takeInt 10 = .ok (.iconst 4, 1) := by decide +kernel
theorem dX3_takeInt_11 : decode cX3_takeInt 11 = .ok (.if_icmp .ne 15, 3) := by decide +kernel
theorem dX3_takeInt_14 : decode cX3_takeInt 14 = .ok (.aload_n 0, 1) := by decide +kernel
theorem dX3_takeInt_15 : decode cX3_takeInt 15 = .ok (.iconst 1, 1) := by decide +kernel
theorem dX3_takeInt_16 : decode cX3_takeInt 16 = .ok (.putfield 90, 3) := by decide +kernel
theorem dX3_takeInt_19 : decode cX3_takeInt 19 = .ok (.aload_n 0, 1) := by decide +kernel
theorem dX3_takeInt_20 : decode cX3_takeInt 20 = .ok (.iconst 5, 1) := by decide +kernel
theorem dX3_takeInt_21 : decode cX3_takeInt 21 = .ok (.putfield 63, 3) := by decide +kernel
theorem dX3_takeInt_24 : decode cX3_takeInt 24 = .ok (.iconst 0, 1) := by decide +kernel
theorem dX3_takeInt_25 : decode cX3_takeInt 25 = .ok (.ireturn, 1) := by decide +kernel
theorem dX3_takeInt_26 : decode cX3_takeInt 26 = .ok (.iload_n 1, 1) := by decide +kernel
theorem dX3_takeInt_27 : decode cX3_takeInt 27 = .ok (.sipush 260, 3) := by decide +kernel
theorem dX3_takeInt_30 : decode cX3_takeInt 30 = .ok (.if_icmp .eq 5, 3) := by decide +kernel
theorem dX3_takeInt_33 : decode cX3_takeInt 33 = .ok (.iconst 2, 1) := by decide +kernel
theorem dX3_takeInt_34 : decode cX3_takeInt 34 = .ok (.ireturn, 1) := by decide +kernel
theorem dX3_takeInt_35 : decode cX3_takeInt 35 = .ok (.aload_n 0, 1) := by decide +kernel
theorem dX3_takeInt_36 : decode cX3_takeInt 36 = .ok (.getfield 24, 3) := by decide +kernel
theorem dX3_takeInt_39 : decode cX3_takeInt 39 = .ok (.aload_n 0, 1) := by decide +kernel
theorem dX3_takeInt_40 : decode cX3_takeInt 40 = .ok (.getfield 84, 3) := by decide +kernel
theorem dX3_takeInt_43 : decode cX3_takeInt 43 = .ok (.aload_n 0, 1) := by decide +kernel
theorem dX3_takeInt_44 : decode cX3_takeInt 44 = .ok (.getfield 87, 3) := by decide +kernel
theorem dX3_takeInt_47 : decode cX3_takeInt 47 = .ok (.aload_n 0, 1) := by decide +kernel
theorem dX3_takeInt_48 : decode cX3_takeInt 48 = .ok (.getfield 101, 3) := by decide +kernel
theorem dX3_takeInt_51 : decode cX3_takeInt 51 = .ok (.aload_n 0, 1) := by decide +kernel
theorem dX3_takeInt_52 : decode cX3_takeInt 52 = .ok (.getfield 90, 3) := by decide +kernel
theorem dX3_takeInt_55 : decode cX3_takeInt 55 = .ok (.ifCond .eq 14, 3) := by decide +kernel
theorem dX3_takeInt_58 : decode cX3_takeInt 58 = .ok (.aload_n 0, 1) := by decide +kernel
theorem dX3_takeInt_59 : decode cX3_takeInt 59 = .ok (.getfield 20, 3) := by decide +kernel
theorem dX3_takeInt_62 : decode cX3_takeInt 62 = .ok (.getfield 81, 3) := by decide +kernel
theorem dX3_takeInt_65 : decode cX3_takeInt 65 = .ok (.ineg, 1) := by decide +kernel
theorem dX3_takeInt_66 : decode cX3_takeInt 66 = .ok (.goto 10, 3) := by decide +kernel
theorem dX3_takeInt_69 : decode cX3_takeInt 69 = .ok (.aload_n 0, 1) := by decide +kernel
theorem dX3_takeInt_70 : decode cX3_takeInt 70 = .ok (.getfield 20, 3) := by decide +kernel
theorem dX3_takeInt_73 : decode cX3_takeInt 73 = .ok (.getfield 81, 3) := by decide +kernel
theorem dX3_takeInt_76 : decode cX3_takeInt 76 = .ok (.invokevirtual 104, 3) := by decide +kernel
theorem dX3_takeInt_79 : decode cX3_takeInt 79 = .ok (.ifCond .ne 5, 3) := by decide +kernel
theorem dX3_takeInt_82 : decode cX3_takeInt 82 = .ok (.iconst 3, 1) := by decide +kernel
theorem dX3_takeInt_83 : decode cX3_takeInt 83 = .ok (.ireturn, 1) := by decide +kernel
theorem dX3_takeInt_84 : decode cX3_takeInt 84 = .ok (.aload_n 0, 1) := by decide +kernel
theorem dX3_takeInt_85 : decode cX3_takeInt 85 = .ok (.invokevirtual 108, 3) := by decide +kernel
theorem dX3_takeInt_88 : decode cX3_takeInt 88 = .ok (.iconst 0, 1) := by decide +kernel
theorem dX3_takeInt_89 : decode cX3_takeInt 89 = .ok (.ireturn, 1) := by decide +kernel
theorem dX3_takeJoint_0 : decode cX3_takeJoint 0 = .ok (.iload_n 1, 1) := by decide +kernel
theorem dX3_takeJoint_1 : decode cX3_takeJoint 1 = .ok (.lookupswitch 80 #[(38, 43), (41, 75), (124, 51), (258, 63)], 43) := by decide +kernel
theorem dX3_takeJoint_44 : decode cX3_takeJoint 44 = .ok (.aload_n 0, 1) := by decide +kernel
theorem dX3_takeJoint_45 : decode cX3_takeJoint 45 = .ok (.bipush 38, 2) := by decide +kernel
theorem dX3_takeJoint_47 : decode cX3_takeJoint 47 = .ok (.invokevirtual 111, 3) := by decide +kernel
theorem dX3_takeJoint_50 : decode cX3_takeJoint 50 = .ok (.iconst 0, 1) := by decide +kernel
theorem dX3_takeJoint_51 : decode cX3_takeJoint 51 = .ok (.ireturn, 1) := by decide +kernel
theorem dX3_takeJoint_52 : decode cX3_takeJoint 52 = .ok (.aload_n 0, 1) := by decide +kernel
theorem dX3_takeJoint_53 : decode cX3_takeJoint 53 = .ok (.invokevirtual 115, 3) := by decide +kernel
theorem dX3_takeJoint_56 : decode cX3_takeJoint 56 = .ok (.aload_n 0, 1) := by decide +kernel
theorem dX3_takeJoint_57 : decode cX3_takeJoint 57 = .ok (.bipush 124, 2) := by decide +kernel
theorem dX3_takeJoint_59 : decode cX3_takeJoint 59 = .ok (.invokevirtual 111, 3) := by decide +kernel
theorem dX3_takeJoint_62 : decode cX3_takeJoint 62 = .ok (.iconst 0, 1) := by decide +kernel
theorem dX3_takeJoint_63 : decode cX3_takeJoint 63 = .ok (.ireturn, 1) := by decide +kernel
theorem dX3_takeJoint_64 : decode cX3_takeJoint 64 = .ok (.aload_n 0, 1) := by decide +kernel
theorem dX3_takeJoint_65 : decode cX3_takeJoint 65 = .ok (.invokevirtual 115, 3) := by decide +kernel
theorem dX3_takeJoint_68 : decode cX3_takeJoint 68 = .ok (.aload_n 0, 1) := by decide +kernel
theorem dX3_takeJoint_69 : decode cX3_takeJoint 69 = .ok (.sipush 258, 3) := by decide +kernel
theorem dX3_takeJoint_72 : decode cX3_takeJoint 72 = .ok (.invokevirtual 94, 3) := by decide +kernel
theorem dX3_takeJoint_75 : decode cX3_takeJoint 75 = .ok (.ireturn, 1) := by decide +kernel
theorem dX3_takeJoint_76 : decode cX3_takeJoint 76 = .ok (.aload_n 0, 1) := by decide +kernel
theorem dX3_takeJoint_77 : decode cX3_takeJoint 77 = .ok (.invokevirtual 118, 3) := by decide +kernel
theorem dX3_takeJoint_80 : decode cX3_takeJoint 80 = .ok (.ireturn, 1) := by decide +kernel
theorem dX3_takeJoint_81 : decode cX3_takeJoint 81 = .ok (.iconst 2, 1) := by decide +kernel
theorem dX3_takeJoint_82 : decode cX3_takeJoint 82 = .ok (.ireturn, 1) := by decide +kernel
theorem dX3_openMark_0 : decode cX3_openMark 0 = .ok (.aload_n 0, 1) := by decide +kernel
theorem dX3_openMark_1 : decode cX3_openMark 1 = .ok (.getfield 57, 3) := by decide +kernel
theorem dX3_openMark_4 : decode cX3_openMark 4 = .ok (.bipush 20, 2) := by decide +kernel
theorem dX3_openMark_6 : decode cX3_openMark 6 = .ok (.if_icmp .lt 5, 3) := by decide +kernel
theorem dX3_openMark_9 : decode cX3_openMark 9 = .ok (.iconst 4, 1) := by decide +kernel
theorem dX3_openMark_10 : decode cX3_openMark 10 = .ok (.ireturn, 1) := by decide +kernel
theorem dX3_openMark_11 : decode cX3_openMark 11 = .ok (.aload_n 0, 1) := by decide +kernel
theorem dX3_openMark_12 : decode cX3_openMark 12 = .ok (.dup, 1) := by decide +kernel
theorem dX3_openMark_13 : decode cX3_openMark 13 = .ok (.getfield 57, 3) := by decide +kernel
theorem dX3_openMark_16 : decode cX3_openMark 16 = .ok (.iconst 1, 1) := by decide +kernel
theorem dX3_openMark_17 : decode cX3_openMark 17 = .ok (.iadd, 1) := by decide +kernel
theorem dX3_openMark_18 : decode cX3_openMark 18 = .ok (.putfield 57, 3) := by decide +kernel
theorem dX3_openMark_21 : decode cX3_openMark 21 = .ok (.iload_n 1, 1) := by decide +kernel
theorem dX3_openMark_22 : decode cX3_openMark 22 = .ok (.bipush 40, 2) := by decide +kernel
theorem dX3_openMark_24 : decode cX3_openMark 24 = .ok (.if_icmp .ne 13, 3) := by decide +kernel
theorem dX3_openMark_27 : decode cX3_openMark 27 = .ok (.aload_n 0, 1) := by decide +kernel
theorem dX3_openMark_28 : decode cX3_openMark 28 = .ok (.dup, 1) := by decide +kernel
theorem dX3_openMark_29 : decode cX3_openMark 29 = .ok (.getfield 60, 3) := by decide +kernel
theorem dX3_openMark_32 : decode cX3_openMark 32 = .ok (.iconst 1, 1) := by decide +kernel
theorem dX3_openMark_33 : decode cX3_openMark 33 = .ok (.iadd, 1) := by decide +kernel
theorem dX3_openMark_34 : decode cX3_openMark 34 = .ok (.putfield 60, 3) := by decide +kernel
theorem dX3_openMark_37 : decode cX3_openMark 37 = .ok (.aload_n 0, 1) := by decide +kernel
theorem dX3_openMark_38 : decode cX3_openMark 38 = .ok (.iload_n 1, 1) := by decide +kernel
theorem dX3_openMark_39 : decode cX3_openMark 39 = .ok (.invokevirtual 111, 3) := by decide +kernel
theorem dX3_openMark_42 : decode cX3_openMark 42 = .ok (.iconst 0, 1) := by decide +kernel
theorem dX3_openMark_43 : decode cX3_openMark 43 = .ok (.ireturn, 1) := by decide +kernel
theorem dX3_closeBracket_0 : decode cX3_closeBracket 0 = .ok (.aload_n 0, 1) := by decide +kernel
theorem dX3_closeBracket_1 : decode cX3_closeBracket 1 = .ok (.getfield 60, 3) := by decide +kernel
theorem dX3_closeBracket_4 : decode cX3_closeBracket 4 = .ok (.ifCond .ne 5, 3) := by decide +kernel
theorem dX3_closeBracket_7 : decode cX3_closeBracket 7 = .ok (.iconst 2, 1) := by decide +kernel
theorem dX3_closeBracket_8 : decode cX3_closeBracket 8 = .ok (.ireturn, 1) := by decide +kernel
theorem dX3_closeBracket_9 : decode cX3_closeBracket 9 = .ok (.aload_n 0, 1) := by decide +kernel
theorem dX3_closeBracket_10 : decode cX3_closeBracket 10 = .ok (.invokevirtual 66, 3) := by decide +kernel
theorem dX3_closeBracket_13 : decode cX3_closeBracket 13 = .ok (.aload_n 0, 1) := by decide +kernel
theorem dX3_closeBracket_14 : decode cX3_closeBracket 14 = .ok (.dup, 1) := by decide +kernel
theorem dX3_closeBracket_15 : decode cX3_closeBracket 15 = .ok (.getfield 60, 3) := by decide +kernel
theorem dX3_closeBracket_18 : decode cX3_closeBracket 18 = .ok (.iconst 1, 1) := by decide +kernel
theorem dX3_closeBracket_19 : decode cX3_closeBracket 19 = .ok (.isub, 1) := by decide +kernel
theorem dX3_closeBracket_20 : decode cX3_closeBracket 20 = .ok (.putfield 60, 3) := by decide +kernel
theorem dX3_closeBracket_23 : decode cX3_closeBracket 23 = .ok (.aload_n 0, 1) := by decide +kernel
theorem dX3_closeBracket_24 : decode cX3_closeBracket 24 = .ok (.dup, 1) := by decide +kernel
theorem dX3_closeBracket_25 : decode cX3_closeBracket 25 = .ok (.getfield 57, 3) := by decide +kernel
theorem dX3_closeBracket_28 : decode cX3_closeBracket 28 = .ok (.iconst 1, 1) := by decide +kernel
theorem dX3_closeBracket_29 : decode cX3_closeBracket 29 = .ok (.isub, 1) := by decide +kernel
theorem dX3_closeBracket_30 : decode cX3_closeBracket 30 = .ok (.putfield 57, 3) := by decide +kernel
theorem dX3_closeBracket_33 : decode cX3_closeBracket 33 = .ok (.aload_n 0, 1) := by decide +kernel
theorem dX3_closeBracket_34 : decode cX3_closeBracket 34 = .ok (.bipush 40, 2) := by decide +kernel
theorem dX3_closeBracket_36 : decode cX3_closeBracket 36 = .ok (.invokevirtual 121, 3) := by decide +kernel
theorem dX3_closeBracket_39 : decode cX3_closeBracket 39 = .ok (.pop, 1) := by decide +kernel
theorem dX3_closeBracket_40 : decode cX3_closeBracket 40 = .ok (.aload_n 0, 1) := by decide +kernel
theorem dX3_closeBracket_41 : decode cX3_closeBracket 41 = .ok (.invokevirtual 108, 3) := by decide +kernel
theorem dX3_closeBracket_44 : decode cX3_closeBracket 44 = .ok (.iconst 0, 1) := by decide +kernel
theorem dX3_closeBracket_45 : decode cX3_closeBracket 45 = .ok (.ireturn, 1) := by decide +kernel
theorem dX3_putMark_0 : decode cX3_putMark 0 = .ok (.aload_n 0, 1) := by decide +kernel
theorem dX3_putMark_1 : decode cX3_putMark 1 = .ok (.getfield 54, 3) := by decide +kernel
theorem dX3_putMark_4 : decode cX3_putMark 4 = .ok (.aload_n 0, 1) := by decide +kernel
theorem dX3_putMark_5 : decode cX3_putMark 5 = .ok (.getfield 9, 3) := by decide +kernel
theorem dX3_putMark_8 : decode cX3_putMark 8 = .ok (.arraylength, 1) := by decide +kernel
theorem dX3_putMark_9 : decode cX3_putMark 9 = .ok (.if_icmp .ge 23, 3) := by decide +kernel
theorem dX3_putMark_12 : decode cX3_putMark 12 = .ok (.aload_n 0, 1) := by decide +kernel
theorem dX3_putMark_13 : decode cX3_putMark 13 = .ok (.getfield 9, 3) := by decide +kernel
theorem dX3_putMark_16 : decode cX3_putMark 16 = .ok (.aload_n 0, 1) := by decide +kernel
theorem dX3_putMark_17 : decode cX3_putMark 17 = .ok (.getfield 54, 3) := by decide +kernel
theorem dX3_putMark_20 : decode cX3_putMark 20 = .ok (.iload_n 1, 1) := by decide +kernel
theorem dX3_putMark_21 : decode cX3_putMark 21 = .ok (.iastore, 1) := by decide +kernel
theorem dX3_putMark_22 : decode cX3_putMark 22 = .ok (.aload_n 0, 1) := by decide +kernel
theorem dX3_putMark_23 : decode cX3_putMark 23 = .ok (.dup, 1) := by decide +kernel
theorem dX3_putMark_24 : decode cX3_putMark 24 = .ok (.getfield 54, 3) := by decide +kernel
theorem dX3_putMark_27 : decode cX3_putMark 27 = .ok (.iconst 1, 1) := by decide +kernel
theorem dX3_putMark_28 : decode cX3_putMark 28 = .ok (.iadd, 1) := by decide +kernel
theorem dX3_putMark_29 : decode cX3_putMark 29 = .ok (.putfield 54, 3) := by decide +kernel
theorem dX3_putMark_32 : decode cX3_putMark 32 = .ok (.aload_n 0, 1) := by decide +kernel
theorem dX3_putMark_33 : decode cX3_putMark 33 = .ok (.iconst 0, 1) := by decide +kernel
theorem dX3_putMark_34 : decode cX3_putMark 34 = .ok (.putfield 63, 3) := by decide +kernel
theorem dX3_putMark_37 : decode cX3_putMark 37 = .ok (.return_, 1) := by decide +kernel
theorem dX3_dropMark_0 : decode cX3_dropMark 0 = .ok (.aload_n 0, 1) := by decide +kernel
theorem dX3_dropMark_1 : decode cX3_dropMark 1 = .ok (.getfield 54, 3) := by decide +kernel
theorem dX3_dropMark_4 : decode cX3_dropMark 4 = .ok (.ifCond .le 18, 3) := by decide +kernel
theorem dX3_dropMark_7 : decode cX3_dropMark 7 = .ok (.aload_n 0, 1) := by decide +kernel
theorem dX3_dropMark_8 : decode cX3_dropMark 8 = .ok (.getfield 9, 3) := by decide +kernel
theorem dX3_dropMark_11 : decode cX3_dropMark 11 = .ok (.aload_n 0, 1) := by decide +kernel
theorem dX3_dropMark_12 : decode cX3_dropMark 12 = .ok (.getfield 54, 3) := by decide +kernel
theorem dX3_dropMark_15 : decode cX3_dropMark 15 = .ok (.iconst 1, 1) := by decide +kernel
theorem dX3_dropMark_16 : decode cX3_dropMark 16 = .ok (.isub, 1) := by decide +kernel
theorem dX3_dropMark_17 : decode cX3_dropMark 17 = .ok (.iaload, 1) := by decide +kernel
theorem dX3_dropMark_18 : decode cX3_dropMark 18 = .ok (.iload_n 1, 1) := by decide +kernel
theorem dX3_dropMark_19 : decode cX3_dropMark 19 = .ok (.if_icmp .eq 5, 3) := by decide +kernel
theorem dX3_dropMark_22 : decode cX3_dropMark 22 = .ok (.iconst 0, 1) := by decide +kernel
theorem dX3_dropMark_23 : decode cX3_dropMark 23 = .ok (.ireturn, 1) := by decide +kernel
theorem dX3_dropMark_24 : decode cX3_dropMark 24 = .ok (.aload_n 0, 1) := by decide +kernel
theorem dX3_dropMark_25 : decode cX3_dropMark 25 = .ok (.dup, 1) := by decide +kernel
theorem dX3_dropMark_26 : decode cX3_dropMark 26 = .ok (.getfield 54, 3) := by decide +kernel
theorem dX3_dropMark_29 : decode cX3_dropMark 29 = .ok (.iconst 1, 1) := by decide +kernel
theorem dX3_dropMark_30 : decode cX3_dropMark 30 = .ok (.isub, 1) := by decide +kernel
theorem dX3_dropMark_31 : decode cX3_dropMark 31 = .ok (.putfield 54, 3) := by decide +kernel
theorem dX3_dropMark_34 : decode cX3_dropMark 34 = .ok (.iconst 1, 1) := by decide +kernel
theorem dX3_dropMark_35 : decode cX3_dropMark 35 = .ok (.ireturn, 1) := by decide +kernel
theorem dX3_endUnit_0 : decode cX3_endUnit 0 = .ok (.iconst 0, 1) := by decide +kernel
theorem dX3_endUnit_1 : decode cX3_endUnit 1 = .ok (.istore_n 1, 1) := by decide +kernel
theorem dX3_endUnit_2 : decode cX3_endUnit 2 = .ok (.iload_n 1, 1) := by decide +kernel
theorem dX3_endUnit_3 : decode cX3_endUnit 3 = .ok (.bipush 64, 2) := by decide +kernel
theorem dX3_endUnit_5 : decode cX3_endUnit 5 = .ok (.if_icmp .ge 37, 3) := by decide +kernel
theorem dX3_endUnit_8 : decode cX3_endUnit 8 = .ok (.aload_n 0, 1) := by decide +kernel
theorem dX3_endUnit_9 : decode cX3_endUnit 9 = .ok (.bipush 126, 2) := by decide +kernel
theorem dX3_endUnit_11 : decode cX3_endUnit 11 = .ok (.invokevirtual 121, 3) := by decide +kernel
theorem dX3_endUnit_14 : decode cX3_endUnit 14 = .ok (.ifCond .eq 28, 3) := by decide +kernel
theorem dX3_endUnit_17 : decode cX3_endUnit 17 = .ok (.aload_n 0, 1) := by decide +kernel
theorem dX3_endUnit_18 : decode cX3_endUnit 18 = .ok (.dup, 1) := by decide +kernel
theorem dX3_endUnit_19 : decode cX3_endUnit 19 = .ok (.getfield 57, 3) := by decide +kernel
theorem dX3_endUnit_22 : decode cX3_endUnit 22 = .ok (.iconst 1, 1) := by decide +kernel
theorem dX3_endUnit_23 : decode cX3_endUnit 23 = .ok (.isub, 1) := by decide +kernel
theorem dX3_endUnit_24 : decode cX3_endUnit 24 = .ok (.putfield 57, 3) := by decide +kernel
theorem dX3_endUnit_27 : decode cX3_endUnit 27 = .ok (.aload_n 0, 1) := by decide +kernel
theorem dX3_endUnit_28 : decode cX3_endUnit 28 = .ok (.getfield 24, 3) := by decide +kernel
theorem dX3_endUnit_31 : decode cX3_endUnit 31 = .ok (.bipush 12, 2) := by decide +kernel
theorem dX3_endUnit_33 : decode cX3_endUnit 33 = .ok (.invokevirtual 124, 3) := by decide +kernel
theorem dX3_endUnit_36 : decode cX3_endUnit 36 = .ok (.iinc 1 1, 3) := by decide +kernel
theorem dX3_endUnit_39 : decode cX3_endUnit 39 = .ok (.goto (-37), 3) := by decide +kernel
theorem dX3_endUnit_42 : decode cX3_endUnit 42 = .ok (.aload_n 0, 1) := by decide +kernel
theorem dX3_endUnit_43 : decode cX3_endUnit 43 = .ok (.bipush 38, 2) := by decide +kernel
theorem dX3_endUnit_45 : decode cX3_endUnit 45 = .ok (.invokevirtual 121, 3) := by decide +kernel
theorem dX3_endUnit_48 : decode cX3_endUnit 48 = .ok (.ifCond .eq 12, 3) := by decide +kernel
theorem dX3_endUnit_51 : decode cX3_endUnit 51 = .ok (.aload_n 0, 1) := by decide +kernel
theorem dX3_endUnit_52 : decode cX3_endUnit 52 = .ok (.getfield 24, 3) := by decide +kernel
theorem dX3_endUnit_55 : decode cX3_endUnit 55 = .ok (.bipush 13, 2) := by decide +kernel
theorem dX3_endUnit_57 : decode cX3_endUnit 57 = .ok (.invokevirtual 124, 3) := by decide +kernel
theorem dX3_endUnit_60 : decode cX3_endUnit 60 = .ok (.aload_n 0, 1) := by decide +kernel
theorem dX3_endUnit_61 : decode cX3_endUnit 61 = .ok (.bipush 6, 2) := by decide +kernel
theorem dX3_endUnit_63 : decode cX3_endUnit 63 = .ok (.putfield 63, 3) := by decide +kernel
theorem dX3_endUnit_66 : decode cX3_endUnit 66 = .ok (.return_, 1) := by decide +kernel
theorem dX3_endEither_0 : decode cX3_endEither 0 = .ok (.aload_n 0, 1) := by decide +kernel
theorem dX3_endEither_1 : decode cX3_endEither 1 = .ok (.bipush 124, 2) := by decide +kernel
theorem dX3_endEither_3 : decode cX3_endEither 3 = .ok (.invokevirtual 121, 3) := by decide +kernel
theorem dX3_endEither_6 : decode cX3_endEither 6 = .ok (.ifCond .eq 12, 3) := by decide +kernel
theorem dX3_endEither_9 : decode cX3_endEither 9 = .ok (.aload_n 0, 1) := by decide +kernel
theorem dX3_endEither_10 : decode cX3_endEither 10 = .ok (.getfield 24, 3) := by decide +kernel
theorem dX3_endEither_13 : decode cX3_endEither 13 = .ok (.bipush 14, 2) := by decide +kernel
theorem dX3_endEither_15 : decode cX3_endEither 15 = .ok (.invokevirtual 124, 3) := by decide +kernel
theorem dX3_endEither_18 : decode cX3_endEither 18 = .ok (.return_, 1) := by decide +kernel
theorem dX3_endFormula_0 : decode cX3_endFormula 0 = .ok (.aload_n 0, 1) := by decide +kernel
theorem dX3_endFormula_1 : decode cX3_endFormula 1 = .ok (.invokevirtual 115, 3) := by decide +kernel
theorem dX3_endFormula_4 : decode cX3_endFormula 4 = .ok (.iconst 0, 1) := by decide +kernel
theorem dX3_endFormula_5 : decode cX3_endFormula 5 = .ok (.istore_n 1, 1) := by decide +kernel
theorem dX3_endFormula_6 : decode cX3_endFormula 6 = .ok (.iload_n 1, 1) := by decide +kernel
theorem dX3_endFormula_7 : decode cX3_endFormula 7 = .ok (.bipush 64, 2) := by decide +kernel
theorem dX3_endFormula_9 : decode cX3_endFormula 9 = .ok (.if_icmp .ge 38, 3) := by decide +kernel
theorem dX3_endFormula_12 : decode cX3_endFormula 12 = .ok (.aload_n 0, 1) := by decide +kernel
theorem dX3_endFormula_13 : decode cX3_endFormula 13 = .ok (.sipush 258, 3) := by decide +kernel
theorem dX3_endFormula_16 : decode cX3_endFormula 16 = .ok (.invokevirtual 121, 3) := by decide +kernel
theorem dX3_endFormula_19 : decode cX3_endFormula 19 = .ok (.ifCond .eq 28, 3) := by decide +kernel
theorem dX3_endFormula_22 : decode cX3_endFormula 22 = .ok (.aload_n 0, 1) := by decide +kernel
theorem dX3_endFormula_23 : decode cX3_endFormula 23 = .ok (.dup, 1) := by decide +kernel
theorem dX3_endFormula_24 : decode cX3_endFormula 24 = .ok (.getfield 57, 3) := by decide +kernel
theorem dX3_endFormula_27 : decode cX3_endFormula 27 = .ok (.iconst 1, 1) := by decide +kernel
theorem dX3_endFormula_28 : decode cX3_endFormula 28 = .ok (.isub, 1) := by decide +kernel
theorem dX3_endFormula_29 : decode cX3_endFormula 29 = .ok (.putfield 57, 3) := by decide +kernel
theorem dX3_endFormula_32 : decode cX3_endFormula 32 = .ok (.aload_n 0, 1) := by decide +kernel
theorem dX3_endFormula_33 : decode cX3_endFormula 33 = .ok (.getfield 24, 3) := by decide +kernel
theorem dX3_endFormula_36 : decode cX3_endFormula 36 = .ok (.bipush 15, 2) := by decide +kernel
theorem dX3_endFormula_38 : decode cX3_endFormula 38 = .ok (.invokevirtual 124, 3) := by decide +kernel
theorem dX3_endFormula_41 : decode cX3_endFormula 41 = .ok (.iinc 1 1, 3) := by decide +kernel
theorem dX3_endFormula_44 : decode cX3_endFormula 44 = .ok (.goto (-38), 3) := by decide +kernel
theorem dX3_endFormula_47 : decode cX3_endFormula 47 = .ok (.return_, 1) := by decide +kernel
theorem dX4_init_0 : decode cX4_init 0 = .ok (.aload_n 0, 1) := by decide +kernel
theorem dX4_init_1 : decode cX4_init 1 = .ok (.invokespecial 3, 3) := by decide +kernel
theorem dX4_init_4 : decode cX4_init 4 = .ok (.aload_n 0, 1) := by decide +kernel
theorem dX4_init_5 : decode cX4_init 5 = .ok (.aload_n 1, 1) := by decide +kernel
theorem dX4_init_6 : decode cX4_init 6 = .ok (.putfield 9, 3) := by decide +kernel
theorem dX4_init_9 : decode cX4_init 9 = .ok (.return_, 1) := by decide +kernel
theorem dX4_rewind_0 : decode cX4_rewind 0 = .ok (.aload_n 0, 1) := by decide +kernel
theorem dX4_rewind_1 : decode cX4_rewind 1 = .ok (.iconst 0, 1) := by decide +kernel
theorem dX4_rewind_2 : decode cX4_rewind 2 = .ok (.putfield 15, 3) := by decide +kernel
theorem dX4_rewind_5 : decode cX4_rewind 5 = .ok (.aload_n 0, 1) := by decide +kernel
theorem dX4_rewind_6 : decode cX4_rewind 6 = .ok (.iconst 0, 1) := by decide +kernel
theorem dX4_rewind_7 : decode cX4_rewind 7 = .ok (.putfield 19, 3) := by decide +kernel
theorem dX4_rewind_10 : decode cX4_rewind 10 = .ok (.aload_n 0, 1) := by decide +kernel
theorem dX4_rewind_11 : decode cX4_rewind 11 = .ok (.sipush 261, 3) := by decide +kernel
theorem dX4_rewind_14 : decode cX4_rewind 14 = .ok (.putfield 22, 3) := by decide +kernel
theorem dX4_rewind_17 : decode cX4_rewind 17 = .ok (.return_, 1) := by decide +kernel
theorem dX4_next_0 : decode cX4_next 0 = .ok (.aload_n 0, 1) := by decide +kernel
theorem dX4_next_1 : decode cX4_next 1 = .ok (.getfield 15, 3) := by decide +kernel
theorem dX4_next_4 : decode cX4_next 4 = .ok (.aload_n 0, 1) := by decide +kernel
theorem dX4_next_5 : decode cX4_next 5 = .ok (.getfield 9, 3) := by decide +kernel
theorem dX4_next_8 : decode cX4_next 8 = .ok (.getfield 25, 3) := by decide +kernel
theorem dX4_next_11 : decode cX4_next 11 = .ok (.if_icmp .ge 32, 3) := by decide +kernel
theorem dX4_next_14 : decode cX4_next 14 = .ok (.aload_n 0, 1) := by decide +kernel
theorem dX4_next_15 : decode cX4_next 15 = .ok (.getfield 9, 3) := by decide +kernel
theorem dX4_next_18 : decode cX4_next 18 = .ok (.aload_n 0, 1) := by decide +kernel
theorem dX4_next_19 : decode cX4_next 19 = .ok (.getfield 15, 3) := by decide +kernel
theorem dX4_next_22 : decode cX4_next 22 = .ok (.invokevirtual 30, 3) := by decide +kernel
theorem dX4_next_25 : decode cX4_next 25 = .ok (.bipush 32, 2) := by decide +kernel
theorem dX4_next_27 : decode cX4_next 27 = .ok (.if_icmp .ne 16, 3) := by decide +kernel
theorem dX4_next_30 : decode cX4_next 30 = .ok (.aload_n 0, 1) := by decide +kernel
theorem dX4_next_31 : decode cX4_next 31 = .ok (.dup, 1) := by decide +kernel
theorem dX4_next_32 : decode cX4_next 32 = .ok (.getfield 15, 3) := by decide +kernel
theorem dX4_next_35 : decode cX4_next 35 = .ok (.iconst 1, 1) := by decide +kernel
theorem dX4_next_36 : decode cX4_next 36 = .ok (.iadd, 1) := by decide +kernel
theorem dX4_next_37 : decode cX4_next 37 = .ok (.putfield 15, 3) := by decide +kernel
theorem dX4_next_40 : decode cX4_next 40 = .ok (.goto (-40), 3) := by decide +kernel
theorem dX4_next_43 : decode cX4_next 43 = .ok (.aload_n 0, 1) := by decide +kernel
theorem dX4_next_44 : decode cX4_next 44 = .ok (.aload_n 0, 1) := by decide +kernel
theorem dX4_next_45 : decode cX4_next 45 = .ok (.getfield 15, 3) := by decide +kernel
theorem dX4_next_48 : decode cX4_next 48 = .ok (.putfield 19, 3) := by decide +kernel
theorem dX4_next_51 : decode cX4_next 51 = .ok (.aload_n 0, 1) := by decide +kernel
theorem dX4_next_52 : decode cX4_next 52 = .ok (.aload_n 0, 1) := by decide +kernel
theorem dX4_next_53 : decode cX4_next 53 = .ok (.aload_n 0, 1) := by decide +kernel
theorem dX4_next_54 : decode cX4_next 54 = .ok (.getfield 9, 3) := by decide +kernel
theorem dX4_next_57 : decode cX4_next 57 = .ok (.aload_n 0, 1) := by decide +kernel
theorem dX4_next_58 : decode cX4_next 58 = .ok (.getfield 15, 3) := by decide +kernel
theorem dX4_next_61 : decode cX4_next 61 = .ok (.invokevirtual 30, 3) := by decide +kernel
theorem dX4_next_64 : decode cX4_next 64 = .ok (.invokevirtual 34, 3) := by decide +kernel
theorem dX4_next_67 : decode cX4_next 67 = .ok (.putfield 22, 3) := by decide +kernel
theorem dX4_next_70 : decode cX4_next 70 = .ok (.return_, 1) := by decide +kernel
theorem dX4_kindHere_0 : decode cX4_kindHere 0 = .ok (.iload_n 1, 1) := by decide +kernel
theorem dX4_kindHere_1 : decode cX4_kindHere 1 = .ok (.iconst (-1), 1) := by decide +kernel
theorem dX4_kindHere_2 : decode cX4_kindHere 2 = .ok (.if_icmp .ne 7, 3) := by decide +kernel
theorem dX4_kindHere_5 : decode cX4_kindHere 5 = .ok (.sipush 261, 3) := by decide +kernel
theorem dX4_kindHere_8 : decode cX4_kindHere 8 = .ok (.ireturn, 1) := by decide +kernel
theorem dX4_kindHere_9 : decode cX4_kindHere 9 = .ok (.iload_n 1, 1) := by decide +kernel
theorem dX4_kindHere_10 : decode cX4_kindHere 10 = .ok (.invokestatic 37, 3) := by decide +kernel
theorem dX4_kindHere_13 : decode cX4_kindHere 13 = .ok (.iconst (-1), 1) := by decide +kernel
theorem dX4_kindHere_14 : decode cX4_kindHere 14 = .ok (.if_icmp .eq 8, 3) := by decide +kernel
theorem dX4_kindHere_17 : decode cX4_kindHere 17 = .ok (.aload_n 0, 1) := by decide +kernel
theorem dX4_kindHere_18 : decode cX4_kindHere 18 = .ok (.invokevirtual 40, 3) := by decide +kernel
theorem dX4_kindHere_21 : decode cX4_kindHere 21 = .ok (.ireturn, 1) := by decide +kernel
theorem dX4_kindHere_22 : decode cX4_kindHere 22 = .ok (.aload_n 0, 1) := by decide +kernel
theorem dX4_kindHere_23 : decode cX4_kindHere 23 = .ok (.dup, 1) := by decide +kernel
theorem dX4_kindHere_24 : decode cX4_kindHere 24 = .ok (.getfield 15, 3) := by decide +kernel
theorem dX4_kindHere_27 : decode cX4_kindHere 27 = .ok (.iconst 1, 1) := by decide +kernel
theorem dX4_kindHere_28 : decode cX4_kindHere 28 = .ok (.iadd, 1) := by decide +kernel
theorem dX4_kindHere_29 : decode cX4_kindHere 29 = .ok (.putfield 15, 3) := by decide +kernel
theorem dX4_kindHere_32 : decode cX4_kindHere 32 = .ok (.iload_n 1, 1) := by decide +kernel
theorem dX4_kindHere_33 : decode cX4_kindHere 33 = .ok (.lookupswitch 147 #[(35, 145), (38, 145), (40, 145), (41, 145), (45, 127), (60, 91), (61, 145), (62, 109), (124, 145), (126, 145)], 91) := by decide +kernel
theorem dX4_kindHere_124 : decode cX4_kindHere 124 = .ok (.aload_n 0, 1) := by decide +kernel
theorem dX4_kindHere_125 : decode cX4_kindHere 125 = .ok (.bipush 61, 2) := by decide +kernel
theorem dX4_kindHere_127 : decode cX4_kindHere 127 = .ok (.invokevirtual 44, 3) := by decide +kernel
theorem dX4_kindHere_130 : decode cX4_kindHere 130 = .ok (.ifCond .eq 9, 3) := by decide +kernel
theorem dX4_kindHere_133 : decode cX4_kindHere 133 = .ok (.sipush 256, 3) := by decide +kernel
theorem dX4_kindHere_136 : decode cX4_kindHere 136 = .ok (.goto 5, 3) := by decide +kernel
theorem dX4_kindHere_139 : decode cX4_kindHere 139 = .ok (.bipush 60, 2) := by decide +kernel
theorem dX4_kindHere_141 : decode cX4_kindHere 141 = .ok (.ireturn, 1) := by decide +kernel
theorem dX4_kindHere_142 : decode cX4_kindHere 142 = .ok (.aload_n 0, 1) := by decide +kernel
theorem dX4_kindHere_143 : decode cX4_kindHere 143 = .ok (.bipush 61, 2) := by decide +kernel
theorem dX4_kindHere_145 : decode cX4_kindHere 145 = .ok (.invokevirtual 44, 3) := by decide +kernel
theorem dX4_kindHere_148 : decode cX4_kindHere 148 = .ok (.ifCond .eq 9, 3) := by decide +kernel
theorem dX4_kindHere_151 : decode cX4_kindHere 151 = .ok (.sipush 257, 3) := by decide +kernel
theorem dX4_kindHere_154 : decode cX4_kindHere 154 = .ok (.goto 5, 3) := by decide +kernel
theorem dX4_kindHere_157 : decode cX4_kindHere 157 = .ok (.bipush 62, 2) := by decide +kernel
theorem dX4_kindHere_159 : decode cX4_kindHere 159 = .ok (.ireturn, 1) := by decide +kernel
theorem dX4_kindHere_160 : decode cX4_kindHere 160 = .ok (.aload_n 0, 1) := by decide +kernel
theorem dX4_kindHere_161 : decode cX4_kindHere 161 = .ok (.bipush 62, 2) := by decide +kernel
theorem dX4_kindHere_163 : decode cX4_kindHere 163 = .ok (.invokevirtual 44, 3) := by decide +kernel
theorem dX4_kindHere_166 : decode cX4_kindHere 166 = .ok (.ifCond .eq 9, 3) := by decide +kernel
theorem dX4_kindHere_169 : decode cX4_kindHere 169 = .ok (.sipush 258, 3) := by decide +kernel
theorem dX4_kindHere_172 : decode cX4_kindHere 172 = .ok (.goto 5, 3) := by decide +kernel
theorem dX4_kindHere_175 : decode cX4_kindHere 175 = .ok (.bipush 45, 2) := by decide +kernel
theorem dX4_kindHere_177 : decode cX4_kindHere 177 = .ok (.ireturn, 1) := by decide +kernel
theorem dX4_kindHere_178 : decode cX4_kindHere 178 = .ok (.iload_n 1, 1) := by decide +kernel
theorem dX4_kindHere_179 : decode cX4_kindHere 179 = .ok (.ireturn, 1) := by decide +kernel
theorem dX4_kindHere_180 : decode cX4_kindHere 180 = .ok (.aload_n 0, 1) := by decide +kernel
theorem dX4_kindHere_181 : decode cX4_kindHere 181 = .ok (.iload_n 1, 1) := by decide +kernel
theorem dX4_kindHere_182 : decode cX4_kindHere 182 = .ok (.invokevirtual 48, 3) := by decide +kernel
theorem dX4_kindHere_185 : decode cX4_kindHere 185 = .ok (.ireturn, 1) := by decide +kernel
theorem dX4_follows_0 : decode cX4_follows 0 = .ok (.aload_n 0, 1) := by decide +kernel
theorem dX4_follows_1 : decode cX4_follows 1 = .ok (.getfield 9, 3) := by decide +kernel
theorem dX4_follows_4 : decode cX4_follows 4 = .ok (.aload_n 0, 1) := by decide +kernel
theorem dX4_follows_5 : decode cX4_follows 5 = .ok (.getfield 15, 3) := by decide +kernel
theorem dX4_follows_8 : decode cX4_follows 8 = .ok (.invokevirtual 30, 3) := by decide +kernel
theorem dX4_follows_11 : decode cX4_follows 11 = .ok (.iload_n 1, 1) := by decide +kernel
theorem dX4_follows_12 : decode cX4_follows 12 = .ok (.if_icmp .eq 5, 3) := by decide +kernel
theorem dX4_follows_15 : decode cX4_follows 15 = .ok (.iconst 0, 1) := by decide +kernel
theorem dX4_follows_16 : decode cX4_follows 16 = .ok (.ireturn, 1) := by decide +kernel
theorem dX4_follows_17 : decode cX4_follows 17 = .ok (.aload_n 0, 1) := by decide +kernel
theorem dX4_follows_18 : decode cX4_follows 18 = .ok (.dup, 1) := by decide +kernel
theorem dX4_follows_19 : decode cX4_follows 19 = .ok (.getfield 15, 3) := by decide +kernel
theorem dX4_follows_22 : decode cX4_follows 22 = .ok (.iconst 1, 1) := by decide +kernel
theorem dX4_follows_23 : decode cX4_follows 23 = .ok (.iadd, 1) := by decide +kernel
theorem dX4_follows_24 : decode cX4_follows 24 = .ok (.putfield 15, 3) := by decide +kernel
theorem dX4_follows_27 : decode cX4_follows 27 = .ok (.iconst 1, 1) := by decide +kernel
theorem dX4_follows_28 : decode cX4_follows 28 = .ok (.ireturn, 1) := by decide +kernel
theorem dX4_scanVariable_0 : decode cX4_scanVariable 0 = .ok (.iload_n 1, 1) := by decide +kernel
theorem dX4_scanVariable_1 : decode cX4_scanVariable 1 = .ok (.bipush 122, 2) := by decide +kernel
theorem dX4_scanVariable_3 : decode cX4_scanVariable 3 = .ok (.if_icmp .ne 12, 3) := by decide +kernel
theorem dX4_scanVariable_6 : decode cX4_scanVariable 6 = .ok (.aload_n 0, 1) := by decide +kernel
theorem dX4_scanVariable_7 : decode cX4_scanVariable 7 = .ok (.iconst 0, 1) := by decide +kernel
theorem dX4_scanVariable_8 : decode cX4_scanVariable 8 = .ok (.putfield 51, 3) := by decide +kernel
theorem dX4_scanVariable_11 : decode cX4_scanVariable 11 = .ok (.sipush 259, 3) := by decide +kernel
theorem dX4_scanVariable_14 : decode cX4_scanVariable 14 = .ok (.ireturn, 1) := by decide +kernel
theorem dX4_scanVariable_15 : decode cX4_scanVariable 15 = .ok (.aload_n 0, 1) := by decide +kernel
theorem dX4_scanVariable_16 : decode cX4_scanVariable 16 = .ok (.iload_n 1, 1) := by decide +kernel
theorem dX4_scanVariable_17 : decode cX4_scanVariable 17 = .ok (.bipush 97, 2) := by decide +kernel
theorem dX4_scanVariable_19 : decode cX4_scanVariable 19 = .ok (.isub, 1) := by decide +kernel
theorem dX4_scanVariable_20 : decode cX4_scanVariable 20 = .ok (.iconst 1, 1) := by decide +kernel
theorem dX4_scanVariable_21 : decode cX4_scanVariable 21 = .ok (.iadd, 1) := by decide +kernel
theorem dX4_scanVariable_22 : decode cX4_scanVariable 22 = .ok (.putfield 51, 3) := by decide +kernel
theorem dX4_scanVariable_25 : decode cX4_scanVariable 25 = .ok (.iload_n 1, 1) := by decide +kernel
theorem dX4_scanVariable_26 : decode cX4_scanVariable 26 = .ok (.bipush 97, 2) := by decide +kernel
theorem dX4_scanVariable_28 : decode cX4_scanVariable 28 = .ok (.if_icmp .lt 15, 3) := by decide +kernel
theorem dX4_scanVariable_31 : decode cX4_scanVariable 31 = .ok (.iload_n 1, 1) := by decide +kernel
theorem dX4_scanVariable_32 : decode cX4_scanVariable 32 = .ok (.bipush 111, 2) := by decide +kernel
theorem dX4_scanVariable_34 : decode cX4_scanVariable 34 = .ok (.if_icmp .gt 9, 3) := by decide +kernel
theorem dX4_scanVariable_37 : decode cX4_scanVariable 37 = .ok (.sipush 259, 3) := by decide +kernel
theorem dX4_scanVariable_40 : decode cX4_scanVariable 40 = .ok (.goto 6, 3) := by decide +kernel
theorem dX4_scanVariable_43 : decode cX4_scanVariable 43 = .ok (.sipush 262, 3) := by decide +kernel
theorem dX4_scanVariable_46 : decode cX4_scanVariable 46 = .ok (.ireturn, 1) := by decide +kernel
theorem dX4_scanNumber_0 : decode cX4_scanNumber 0 = .ok (.aload_n 0, 1) := by decide +kernel
theorem dX4_scanNumber_1 : decode cX4_scanNumber 1 = .ok (.iconst 0, 1) := by decide +kernel
theorem dX4_scanNumber_2 : decode cX4_scanNumber 2 = .ok (.putfield 51, 3) := by decide +kernel
theorem dX4_scanNumber_5 : decode cX4_scanNumber 5 = .ok (.aload_n 0, 1) := by decide +kernel
theorem dX4_scanNumber_6 : decode cX4_scanNumber 6 = .ok (.getfield 15, 3) := by decide +kernel
theorem dX4_scanNumber_9 : decode cX4_scanNumber 9 = .ok (.aload_n 0, 1) := by decide +kernel
theorem dX4_scanNumber_10 : decode cX4_scanNumber 10 = .ok (.getfield 9, 3) := by decide +kernel
theorem dX4_scanNumber_13 : decode cX4_scanNumber 13 = .ok (.getfield 25, 3) := by decide +kernel
theorem dX4_scanNumber_16 : decode cX4_scanNumber 16 = .ok (.if_icmp .ge 74, 3) := by decide +kernel
theorem dX4_scanNumber_19 : decode cX4_scanNumber 19 = .ok (.aload_n 0, 1) := by decide +kernel
theorem dX4_scanNumber_20 : decode cX4_scanNumber 20 = .ok (.getfield 9, 3) := by decide +kernel
theorem dX4_scanNumber_23 : decode cX4_scanNumber 23 = .ok (.aload_n 0, 1) := by decide +kernel
theorem dX4_scanNumber_24 : decode cX4_scanNumber 24 = .ok (.getfield 15, 3) := by decide +kernel
theorem dX4_scanNumber_27 : decode cX4_scanNumber 27 = .ok (.invokevirtual 30, 3) := by decide +kernel
theorem dX4_scanNumber_30 : decode cX4_scanNumber 30 = .ok (.invokestatic 37, 3) := by decide +kernel
theorem dX4_scanNumber_33 : decode cX4_scanNumber 33 = .ok (.iconst (-1), 1) := by decide +kernel
theorem dX4_scanNumber_34 : decode cX4_scanNumber 34 = .ok (.if_icmp .eq 56, 3) := by decide +kernel
theorem dX4_scanNumber_37 : decode cX4_scanNumber 37 = .ok (.aload_n 0, 1) := by decide +kernel
theorem dX4_scanNumber_38 : decode cX4_scanNumber 38 = .ok (.getfield 15, 3) := by decide +kernel
theorem dX4_scanNumber_41 : decode cX4_scanNumber 41 = .ok (.aload_n 0, 1) := by decide +kernel
theorem dX4_scanNumber_42 : decode cX4_scanNumber 42 = .ok (.getfield 19, 3) := by decide +kernel
theorem dX4_scanNumber_45 : decode cX4_scanNumber 45 = .ok (.isub, 1) := by decide +kernel
theorem dX4_scanNumber_46 : decode cX4_scanNumber 46 = .ok (.bipush 7, 2) := by decide +kernel
theorem dX4_scanNumber_48 : decode cX4_scanNumber 48 = .ok (.if_icmp .ge 29, 3) := by decide +kernel
theorem dX4_scanNumber_51 : decode cX4_scanNumber 51 = .ok (.aload_n 0, 1) := by decide +kernel
theorem dX4_scanNumber_52 : decode cX4_scanNumber 52 = .ok (.aload_n 0, 1) := by decide +kernel
theorem dX4_scanNumber_53 : decode cX4_scanNumber 53 = .ok (.getfield 51, 3) := by decide +kernel
theorem dX4_scanNumber_56 : decode cX4_scanNumber 56 = .ok (.bipush 10, 2) := by decide +kernel
theorem dX4_scanNumber_58 : decode cX4_scanNumber 58 = .ok (.imul, 1) := by decide +kernel
theorem dX4_scanNumber_59 : decode cX4_scanNumber 59 = .ok (.aload_n 0, 1) := by decide +kernel
theorem dX4_scanNumber_60 : decode cX4_scanNumber 60 = .ok (.getfield 9, 3) := by decide +kernel
theorem dX4_scanNumber_63 : decode cX4_scanNumber 63 = .ok (.aload_n 0, 1) := by decide +kernel
theorem dX4_scanNumber_64 : decode cX4_scanNumber 64 = .ok (.getfield 15, 3) := by decide +kernel
theorem dX4_scanNumber_67 : decode cX4_scanNumber 67 = .ok (.invokevirtual 30, 3) := by decide +kernel
theorem dX4_scanNumber_70 : decode cX4_scanNumber 70 = .ok (.invokestatic 37, 3) := by decide +kernel
theorem dX4_scanNumber_73 : decode cX4_scanNumber 73 = .ok (.iadd, 1) := by decide +kernel
theorem dX4_scanNumber_74 : decode cX4_scanNumber 74 = .ok (.putfield 51, 3) := by decide +kernel
theorem dX4_scanNumber_77 : decode cX4_scanNumber 77 = .ok (.aload_n 0, 1) := by decide +kernel
theorem dX4_scanNumber_78 : decode cX4_scanNumber 78 = .ok (.dup, 1) := by decide +kernel
theorem dX4_scanNumber_79 : decode cX4_scanNumber 79 = .ok (.getfield 15, 3) := by decide +kernel
theorem dX4_scanNumber_82 : decode cX4_scanNumber 82 = .ok (.iconst 1, 1) := by decide +kernel
theorem dX4_scanNumber_83 : decode cX4_scanNumber 83 = .ok (.iadd, 1) := by decide +kernel
theorem dX4_scanNumber_84 : decode cX4_scanNumber 84 = .ok (.putfield 15, 3) := by decide +kernel
theorem dX4_scanNumber_87 : decode cX4_scanNumber 87 = .ok (.goto (-82), 3) := by decide +kernel
theorem dX4_scanNumber_90 : decode cX4_scanNumber 90 = .ok (.aload_n 0, 1) := by decide +kernel
theorem dX4_scanNumber_91 : decode cX4_scanNumber 91 = .ok (.getfield 15, 3) := by decide +kernel
theorem dX4_scanNumber_94 : decode cX4_scanNumber 94 = .ok (.aload_n 0, 1) := by decide +kernel
theorem dX4_scanNumber_95 : decode cX4_scanNumber 95 = .ok (.getfield 19, 3) := by decide +kernel
theorem dX4_scanNumber_98 : decode cX4_scanNumber 98 = .ok (.isub, 1) := by decide +kernel
theorem dX4_scanNumber_99 : decode cX4_scanNumber 99 = .ok (.bipush 7, 2) := by decide +kernel
theorem dX4_scanNumber_101 : decode cX4_scanNumber 101 = .ok (.if_icmp .gt 12, 3) := by decide +kernel
theorem dX4_scanNumber_104 : decode cX4_scanNumber 104 = .ok (.aload_n 0, 1) := by decide +kernel
theorem dX4_scanNumber_105 : decode cX4_scanNumber 105 = .ok (.getfield 51, 3) := by decide +kernel
theorem dX4_scanNumber_108 : decode cX4_scanNumber 108 = .ok (.ldc 54, 2) := by decide +kernel
theorem dX4_scanNumber_110 : decode cX4_scanNumber 110 = .ok (.if_icmp .le 9, 3) := by decide +kernel
theorem dX4_scanNumber_113 : decode cX4_scanNumber 113 = .ok (.sipush 262, 3) := by decide +kernel
theorem dX4_scanNumber_116 : decode cX4_scanNumber 116 = .ok (.goto 6, 3) := by decide +kernel
theorem dX4_scanNumber_119 : decode cX4_scanNumber 119 = .ok (.sipush 260, 3) := by decide +kernel
theorem dX4_scanNumber_122 : decode cX4_scanNumber 122 = .ok (.ireturn, 1) := by decide +kernel
theorem dX5_init_0 : decode cX5_init 0 = .ok (.aload_n 0, 1) := by decide +kernel
theorem dX5_init_1 : decode cX5_init 1 = .ok (.invokespecial 3, 3) := by decide +kernel
theorem dX5_init_4 : decode cX5_init 4 = .ok (.aload_n 0, 1) := by decide +kernel
theorem dX5_init_5 : decode cX5_init 5 = .ok (.sipush 1024, 3) := by decide +kernel
theorem dX5_init_8 : decode cX5_init 8 = .ok (.newarray .boolean, 2) := by decide +kernel
theorem dX5_init_10 : decode cX5_init 10 = .ok (.putfield 9, 3) := by decide +kernel
theorem dX5_init_13 : decode cX5_init 13 = .ok (.aload_n 0, 1) := by decide +kernel
theorem dX5_init_14 : decode cX5_init 14 = .ok (.aload_n 1, 1) := by decide +kernel
theorem dX5_init_15 : decode cX5_init 15 = .ok (.putfield 15, 3) := by decide +kernel
theorem dX5_init_18 : decode cX5_init 18 = .ok (.aload_n 0, 1) := by decide +kernel
theorem dX5_init_19 : decode cX5_init 19 = .ok (.aload_n 2, 1) := by decide +kernel
theorem dX5_init_20 : decode cX5_init 20 = .ok (.putfield 19, 3) := by decide +kernel
theorem dX5_init_23 : decode cX5_init 23 = .ok (.return_, 1) := by decide +kernel
theorem dX5_fill_0 : decode cX5_fill 0 = .ok (.aload_n 0, 1) := by decide +kernel
theorem dX5_fill_1 : decode cX5_fill 1 = .ok (.getfield 23, 3) := by decide +kernel
theorem dX5_fill_4 : decode cX5_fill 4 = .ok (.ifCond .eq 4, 3) := by decide +kernel
theorem dX5_fill_7 : decode cX5_fill 7 = .ok (.return_, 1) := by decide +kernel
theorem dX5_fill_8 : decode cX5_fill 8 = .ok (.iconst 0, 1) := by decide +kernel
theorem dX5_fill_9 : decode cX5_fill 9 = .ok (.istore_n 1, 1) := by decide +kernel
theorem dX5_fill_10 : decode cX5_fill 10 = .ok (.iload_n 1, 1) := by decide +kernel
theorem dX5_fill_11 : decode cX5_fill 11 = .ok (.aload_n 0, 1) := by decide +kernel
theorem dX5_fill_12 : decode cX5_fill 12 = .ok (.getfield 9, 3) := by decide +kernel
theorem dX5_fill_15 : decode cX5_fill 15 = .ok (.arraylength, 1) := by decide +kernel
theorem dX5_fill_16 : decode cX5_fill 16 = .ok (.if_icmp .ge 16, 3) := by decide +kernel
theorem dX5_fill_19 : decode cX5_fill 19 = .ok (.aload_n 0, 1) := by decide +kernel
theorem dX5_fill_20 : decode cX5_fill 20 = .ok (.getfield 9, 3) := by decide +kernel
theorem dX5_fill_23 : decode cX5_fill 23 = .ok (.iload_n 1, 1) := by decide +kernel
theorem dX5_fill_24 : decode cX5_fill 24 = .ok (.iconst 0, 1) := by decide +kernel
theorem dX5_fill_25 : decode cX5_fill 25 = .ok (.bastore, 1) := by decide +kernel
theorem dX5_fill_26 : decode cX5_fill 26 = .ok (.iinc 1 1, 3) := by decide +kernel
theorem dX5_fill_29 : decode cX5_fill 29 = .ok (.goto (-19), 3) := by decide +kernel
theorem dX5_fill_32 : decode cX5_fill 32 = .ok (.aload_n 0, 1) := by decide +kernel
theorem dX5_fill_33 : decode cX5_fill 33 = .ok (.iconst 0, 1) := by decide +kernel
theorem dX5_fill_34 : decode cX5_fill 34 = .ok (.putfield 27, 3) := by decide +kernel
theorem dX5_fill_37 : decode cX5_fill 37 = .ok (.aload_n 0, 1) := by decide +kernel
theorem dX5_fill_38 : decode cX5_fill 38 = .ok (.getfield 15, 3) := by decide +kernel
theorem dX5_fill_41 : decode cX5_fill 41 = .ok (.invokevirtual 31, 3) := by decide +kernel
theorem dX5_fill_44 : decode cX5_fill 44 = .ok (.aload_n 0, 1) := by decide +kernel
theorem dX5_fill_45 : decode cX5_fill 45 = .ok (.iconst 0, 1) := by decide +kernel
theorem dX5_fill_46 : decode cX5_fill 46 = .ok (.iconst 0, 1) := by decide +kernel
theorem dX5_fill_47 : decode cX5_fill 47 = .ok (.invokevirtual 36, 3) := by decide +kernel
theorem dX5_fill_50 : decode cX5_fill 50 = .ok (.aload_n 0, 1) := by decide +kernel
theorem dX5_fill_51 : decode cX5_fill 51 = .ok (.iconst 1, 1) := by decide +kernel
theorem dX5_fill_52 : decode cX5_fill 52 = .ok (.putfield 23, 3) := by decide +kernel
theorem dX5_fill_55 : decode cX5_fill 55 = .ok (.return_, 1) := by decide +kernel
theorem dX5_search_0 : decode cX5_search 0 = .ok (.aload_n 0, 1) := by decide +kernel
theorem dX5_search_1 : decode cX5_search 1 = .ok (.getfield 15, 3) := by decide +kernel
theorem dX5_search_4 : decode cX5_search 4 = .ok (.invokevirtual 40, 3) := by decide +kernel
theorem dX5_search_7 : decode cX5_search 7 = .ok (.istore_n 3, 1) := by decide +kernel
theorem dX5_search_8 : decode cX5_search 8 = .ok (.iload_n 3, 1) := by decide +kernel
theorem dX5_search_9 : decode cX5_search 9 = .ok (.ifCond .eq 14, 3) := by decide +kernel
theorem dX5_search_12 : decode cX5_search 12 = .ok (.iload_n 1, 1) := by decide +kernel
theorem dX5_search_13 : decode cX5_search 13 = .ok (.aload_n 0, 1) := by decide +kernel
theorem dX5_search_14 : decode cX5_search 14 = .ok (.getfield 15, 3) := by decide +kernel
theorem dX5_search_17 : decode cX5_search 17 = .ok (.getfield 44, 3) := by decide +kernel
theorem dX5_search_20 : decode cX5_search 20 = .ok (.if_icmp .le 4, 3) := by decide +kernel
theorem dX5_search_23 : decode cX5_search 23 = .ok (.return_, 1) := by decide +kernel
theorem dX5_search_24 : decode cX5_search 24 = .ok (.iload_n 1, 1) := by decide +kernel
theorem dX5_search_25 : decode cX5_search 25 = .ok (.aload_n 0, 1) := by decide +kernel
theorem dX5_search_26 : decode cX5_search 26 = .ok (.getfield 15, 3) := by decide +kernel
theorem dX5_search_29 : decode cX5_search 29 = .ok (.getfield 44, 3) := by decide +kernel
theorem dX5_search_32 : decode cX5_search 32 = .ok (.if_icmp .ge 36, 3) := by decide +kernel
theorem dX5_search_35 : decode cX5_search 35 = .ok (.aload_n 0, 1) := by decide +kernel
theorem dX5_search_36 : decode cX5_search 36 = .ok (.iload_n 1, 1) := by decide +kernel
theorem dX5_search_37 : decode cX5_search 37 = .ok (.iconst 0, 1) := by decide +kernel
theorem dX5_search_38 : decode cX5_search 38 = .ok (.iconst 2, 1) := by decide +kernel
theorem dX5_search_39 : decode cX5_search 39 = .ok (.iload_n 2, 1) := by decide +kernel
theorem dX5_search_40 : decode cX5_search 40 = .ok (.imul, 1) := by decide +kernel
theorem dX5_search_41 : decode cX5_search 41 = .ok (.invokevirtual 47, 3) := by decide +kernel
theorem dX5_search_44 : decode cX5_search 44 = .ok (.aload_n 0, 1) := by decide +kernel
theorem dX5_search_45 : decode cX5_search 45 = .ok (.iload_n 1, 1) := by decide +kernel
theorem dX5_search_46 : decode cX5_search 46 = .ok (.iconst 2, 1) := by decide +kernel
theorem dX5_search_47 : decode cX5_search 47 = .ok (.iconst 2, 1) := by decide +kernel
theorem dX5_search_48 : decode cX5_search 48 = .ok (.iload_n 2, 1) := by decide +kernel
theorem dX5_search_49 : decode cX5_search 49 = .ok (.imul, 1) := by decide +kernel
theorem dX5_search_50 : decode cX5_search 50 = .ok (.iconst 1, 1) := by decide +kernel
theorem dX5_search_51 : decode cX5_search 51 = .ok (.iadd, 1) := by decide +kernel
theorem dX5_search_52 : decode cX5_search 52 = .ok (.invokevirtual 47, 3) := by decide +kernel
theorem dX5_search_55 : decode cX5_search 55 = .ok (.aload_n 0, 1) := by decide +kernel
theorem dX5_search_56 : decode cX5_search 56 = .ok (.getfield 15, 3) := by decide +kernel
theorem dX5_search_59 : decode cX5_search 59 = .ok (.getfield 51, 3) := by decide +kernel
theorem dX5_search_62 : decode cX5_search 62 = .ok (.iload_n 1, 1) := by decide +kernel
theorem dX5_search_63 : decode cX5_search 63 = .ok (.iconst 1, 1) := by decide +kernel
theorem dX5_search_64 : decode cX5_search 64 = .ok (.iastore, 1) := by decide +kernel
theorem dX5_search_65 : decode cX5_search 65 = .ok (.goto 33, 3) := by decide +kernel
theorem dX5_search_68 : decode cX5_search 68 = .ok (.iload_n 2, 1) := by decide +kernel
theorem dX5_search_69 : decode cX5_search 69 = .ok (.ifCond .lt 29, 3) := by decide +kernel
theorem dX5_search_72 : decode cX5_search 72 = .ok (.iload_n 2, 1) := by decide +kernel
theorem dX5_search_73 : decode cX5_search 73 = .ok (.aload_n 0, 1) := by decide +kernel
theorem dX5_search_74 : decode cX5_search 74 = .ok (.getfield 9, 3) := by decide +kernel
theorem dX5_search_77 : decode cX5_search 77 = .ok (.arraylength, 1) := by decide +kernel
theorem dX5_search_78 : decode cX5_search 78 = .ok (.if_icmp .ge 20, 3) := by decide +kernel
theorem dX5_search_81 : decode cX5_search 81 = .ok (.aload_n 0, 1) := by decide +kernel
theorem dX5_search_82 : decode cX5_search 82 = .ok (.getfield 9, 3) := by decide +kernel
theorem dX5_search_85 : decode cX5_search 85 = .ok (.iload_n 2, 1) := by decide +kernel
theorem dX5_search_86 : decode cX5_search 86 = .ok (.iconst 1, 1) := by decide +kernel
theorem dX5_search_87 : decode cX5_search 87 = .ok (.bastore, 1) := by decide +kernel
theorem dX5_search_88 : decode cX5_search 88 = .ok (.aload_n 0, 1) := by decide +kernel
theorem dX5_search_89 : decode cX5_search 89 = .ok (.dup, 1) := by decide +kernel
theorem dX5_search_90 : decode cX5_search 90 = .ok (.getfield 27, 3) := by decide +kernel
theorem dX5_search_93 : decode cX5_search 93 = .ok (.iconst 1, 1) := by decide +kernel
theorem dX5_search_94 : decode cX5_search 94 = .ok (.iadd, 1) := by decide +kernel
theorem dX5_search_95 : decode cX5_search 95 = .ok (.putfield 27, 3) := by decide +kernel
theorem dX5_search_98 : decode cX5_search 98 = .ok (.return_, 1) := by decide +kernel
theorem dX5_tryTruth_0 : decode cX5_tryTruth 0 = .ok (.aload_n 0, 1) := by decide +kernel
theorem dX5_tryTruth_1 : decode cX5_tryTruth 1 = .ok (.getfield 19, 3) := by decide +kernel
theorem dX5_tryTruth_4 : decode cX5_tryTruth 4 = .ok (.getfield 55, 3) := by decide +kernel
theorem dX5_tryTruth_7 : decode cX5_tryTruth 7 = .ok (.istore 4, 2) := by decide +kernel
theorem dX5_tryTruth_9 : decode cX5_tryTruth 9 = .ok (.aload_n 0, 1) := by decide +kernel
theorem dX5_tryTruth_10 : decode cX5_tryTruth 10 = .ok (.getfield 15, 3) := by decide +kernel
theorem dX5_tryTruth_13 : decode cX5_tryTruth 13 = .ok (.getfield 51, 3) := by decide +kernel
theorem dX5_tryTruth_16 : decode cX5_tryTruth 16 = .ok (.iload_n 1, 1) := by decide +kernel
theorem dX5_tryTruth_17 : decode cX5_tryTruth 17 = .ok (.iload_n 2, 1) := by decide +kernel
theorem dX5_tryTruth_18 : decode cX5_tryTruth 18 = .ok (.iastore, 1) := by decide +kernel
theorem dX5_tryTruth_19 : decode cX5_tryTruth 19 = .ok (.aload_n 0, 1) := by decide +kernel
theorem dX5_tryTruth_20 : decode cX5_tryTruth 20 = .ok (.getfield 15, 3) := by decide +kernel
theorem dX5_tryTruth_23 : decode cX5_tryTruth 23 = .ok (.aload_n 0, 1) := by decide +kernel
theorem dX5_tryTruth_24 : decode cX5_tryTruth 24 = .ok (.getfield 19, 3) := by decide +kernel
theorem dX5_tryTruth_27 : decode cX5_tryTruth 27 = .ok (.iload_n 1, 1) := by decide +kernel
theorem dX5_tryTruth_28 : decode cX5_tryTruth 28 = .ok (.invokevirtual 58, 3) := by decide +kernel
theorem dX5_tryTruth_31 : decode cX5_tryTruth 31 = .ok (.ifCond .eq 11, 3) := by decide +kernel
theorem dX5_tryTruth_34 : decode cX5_tryTruth 34 = .ok (.aload_n 0, 1) := by decide +kernel
theorem dX5_tryTruth_35 : decode cX5_tryTruth 35 = .ok (.iload_n 1, 1) := by decide +kernel
theorem dX5_tryTruth_36 : decode cX5_tryTruth 36 = .ok (.iconst 1, 1) := by decide +kernel
theorem dX5_tryTruth_37 : decode cX5_tryTruth 37 = .ok (.iadd, 1) := by decide +kernel
theorem dX5_tryTruth_38 : decode cX5_tryTruth 38 = .ok (.iload_n 3, 1) := by decide +kernel
theorem dX5_tryTruth_39 : decode cX5_tryTruth 39 = .ok (.invokevirtual 36, 3) := by decide +kernel
theorem dX5_tryTruth_42 : decode cX5_tryTruth 42 = .ok (.aload_n 0, 1) := by decide +kernel
theorem dX5_tryTruth_43 : decode cX5_tryTruth 43 = .ok (.getfield 19, 3) := by decide +kernel
theorem dX5_tryTruth_46 : decode cX5_tryTruth 46 = .ok (.iload 4, 2) := by decide +kernel
theorem dX5_tryTruth_48 : decode cX5_tryTruth 48 = .ok (.invokevirtual 62, 3) := by decide +kernel
theorem dX5_tryTruth_51 : decode cX5_tryTruth 51 = .ok (.return_, 1) := by decide +kernel
theorem dX5_countTrue_0 : decode cX5_countTrue 0 = .ok (.iconst 0, 1) := by decide +kernel
theorem dX5_countTrue_1 : decode cX5_countTrue 1 = .ok (.istore_n 2, 1) := by decide +kernel
theorem dX5_countTrue_2 : decode cX5_countTrue 2 = .ok (.iconst 1, 1) := by decide +kernel
theorem dX5_countTrue_3 : decode cX5_countTrue 3 = .ok (.aload_n 0, 1) := by decide +kernel
theorem dX5_countTrue_4 : decode cX5_countTrue 4 = .ok (.getfield 15, 3) := by decide +kernel
theorem dX5_countTrue_7 : decode cX5_countTrue 7 = .ok (.getfield 44, 3) := by decide +kernel
theorem dX5_countTrue_10 : decode cX5_countTrue 10 = .ok (.iconst 1, 1) := by decide +kernel
theorem dX5_countTrue_11 : decode cX5_countTrue 11 = .ok (.isub, 1) := by decide +kernel
theorem dX5_countTrue_12 : decode cX5_countTrue 12 = .ok (.iload_n 1, 1) := by decide +kernel
theorem dX5_countTrue_13 : decode cX5_countTrue 13 = .ok (.isub, 1) := by decide +kernel
theorem dX5_countTrue_14 : decode cX5_countTrue 14 = .ok (.ishl, 1) := by decide +kernel
theorem dX5_countTrue_15 : decode cX5_countTrue 15 = .ok (.istore_n 3, 1) := by decide +kernel
theorem dX5_countTrue_16 : decode cX5_countTrue 16 = .ok (.iconst 0, 1) := by decide +kernel
theorem dX5_countTrue_17 : decode cX5_countTrue 17 = .ok (.istore 4, 2) := by decide +kernel
theorem dX5_countTrue_19 : decode cX5_countTrue 19 = .ok (.iload 4, 2) := by decide +kernel
theorem dX5_countTrue_21 : decode cX5_countTrue 21 = .ok (.aload_n 0, 1) := by decide +kernel
theorem dX5_countTrue_22 : decode cX5_countTrue 22 = .ok (.getfield 9, 3) := by decide +kernel
theorem dX5_countTrue_25 : decode cX5_countTrue 25 = .ok (.arraylength, 1) := by decide +kernel
theorem dX5_countTrue_26 : decode cX5_countTrue 26 = .ok (.if_icmp .ge 29, 3) := by decide +kernel
theorem dX5_countTrue_29 : decode cX5_countTrue 29 = .ok (.aload_n 0, 1) := by decide +kernel
theorem dX5_countTrue_30 : decode cX5_countTrue 30 = .ok (.getfield 9, 3) := by decide +kernel
theorem dX5_countTrue_33 : decode cX5_countTrue 33 = .ok (.iload 4, 2) := by decide +kernel
theorem dX5_countTrue_35 : decode cX5_countTrue 35 = .ok (.baload, 1) := by decide +kernel
theorem dX5_countTrue_36 : decode cX5_countTrue 36 = .ok (.ifCond .eq 13, 3) := by decide +kernel
theorem dX5_countTrue_39 : decode cX5_countTrue 39 = .ok (.iload 4, 2) := by decide +kernel
theorem dX5_countTrue_41 : decode cX5_countTrue 41 = .ok (.iload_n 3, 1) := by decide +kernel
theorem dX5_countTrue_42 : decode cX5_countTrue 42 = .ok (.iand, 1) := by decide +kernel
theorem dX5_countTrue_43 : decode cX5_countTrue 43 = .ok (.ifCond .eq 6, 3) := by decide +kernel
theorem dX5_countTrue_46 : decode cX5_countTrue 46 = .ok (.iinc 2 1, 3) := by decide +kernel
theorem dX5_countTrue_49 : decode cX5_countTrue 49 = .ok (.iinc 4 1, 3) := by decide +kernel
theorem dX5_countTrue_52 : decode cX5_countTrue 52 = .ok (.goto (-33), 3) := by decide +kernel
theorem dX5_countTrue_55 : decode cX5_countTrue 55 = .ok (.iload_n 2, 1) := by decide +kernel
theorem dX5_countTrue_56 : decode cX5_countTrue 56 = .ok (.ireturn, 1) := by decide +kernel
theorem dX6_init_0 : decode cX6_init 0 = .ok (.aload_n 0, 1) := by decide +kernel
theorem dX6_init_1 : decode cX6_init 1 = .ok (.invokespecial 3, 3) := by decide +kernel
theorem dX6_init_4 : decode cX6_init 4 = .ok (.aload_n 0, 1) := by decide +kernel
theorem dX6_init_5 : decode cX6_init 5 = .ok (.iload_n 1, 1) := by decide +kernel
theorem dX6_init_6 : decode cX6_init 6 = .ok (.ifCond .le 7, 3) := by decide +kernel
theorem dX6_init_9 : decode cX6_init 9 = .ok (.iload_n 1, 1) := by decide +kernel
theorem dX6_init_10 : decode cX6_init 10 = .ok (.goto 4, 3) := by decide +kernel
theorem dX6_init_13 : decode cX6_init 13 = .ok (.iconst 0, 1) := by decide +kernel
theorem dX6_init_14 : decode cX6_init 14 = .ok (.newarray .byte, 2) := by decide +kernel
theorem dX6_init_16 : decode cX6_init 16 = .ok (.putfield 9, 3) := by decide +kernel
theorem dX6_init_19 : decode cX6_init 19 = .ok (.return_, 1) := by decide +kernel
theorem dX6_append_0 : decode cX6_append 0 = .ok (.aload_n 0, 1) := by decide +kernel
theorem dX6_append_1 : decode cX6_append 1 = .ok (.getfield 15, 3) := by decide +kernel
theorem dX6_append_4 : decode cX6_append 4 = .ok (.ifCond .lt 15, 3) := by decide +kernel
theorem dX6_append_7 : decode cX6_append 7 = .ok (.aload_n 0, 1) := by decide +kernel
theorem dX6_append_8 : decode cX6_append 8 = .ok (.getfield 15, 3) := by decide +kernel
theorem dX6_append_11 : decode cX6_append 11 = .ok (.aload_n 0, 1) := by decide +kernel
theorem dX6_append_12 : decode cX6_append 12 = .ok (.getfield 9, 3) := by decide +kernel
theorem dX6_append_15 : decode cX6_append 15 = .ok (.arraylength, 1) := by decide +kernel
theorem dX6_append_16 : decode cX6_append 16 = .ok (.if_icmp .lt 5, 3) := by decide +kernel
theorem dX6_append_19 : decode cX6_append 19 = .ok (.iconst 0, 1) := by decide +kernel
theorem dX6_append_20 : decode cX6_append 20 = .ok (.ireturn, 1) := by decide +kernel
theorem dX6_append_21 : decode cX6_append 21 = .ok (.aload_n 0, 1) := by decide +kernel
theorem dX6_append_22 : decode cX6_append 22 = .ok (.getfield 9, 3) := by decide +kernel
theorem dX6_append_25 : decode cX6_append 25 = .ok (.aload_n 0, 1) := by decide +kernel
theorem dX6_append_26 : decode cX6_append 26 = .ok (.getfield 15, 3) := by decide +kernel
theorem dX6_append_29 : decode cX6_append 29 = .ok (.iload_n 1, 1) := by decide +kernel
theorem dX6_append_30 : decode cX6_append 30 = .ok (.i2b, 1) := by decide +kernel
theorem dX6_append_31 : decode cX6_append 31 = .ok (.bastore, 1) := by decide +kernel
theorem dX6_append_32 : decode cX6_append 32 = .ok (.aload_n 0, 1) := by decide +kernel
theorem dX6_append_33 : decode cX6_append 33 = .ok (.dup, 1) := by decide +kernel
theorem dX6_append_34 : decode cX6_append 34 = .ok (.getfield 15, 3) := by decide +kernel
theorem dX6_append_37 : decode cX6_append 37 = .ok (.iconst 1, 1) := by decide +kernel
theorem dX6_append_38 : decode cX6_append 38 = .ok (.iadd, 1) := by decide +kernel
theorem dX6_append_39 : decode cX6_append 39 = .ok (.putfield 15, 3) := by decide +kernel
theorem dX6_append_42 : decode cX6_append 42 = .ok (.iconst 1, 1) := by decide +kernel
theorem dX6_append_43 : decode cX6_append 43 = .ok (.ireturn, 1) := by decide +kernel
theorem dX6_at_0 : decode cX6_at 0 = .ok (.iload_n 1, 1) := by decide +kernel
theorem dX6_at_1 : decode cX6_at 1 = .ok (.ifCond .lt 33, 3) := by decide +kernel
theorem dX6_at_4 : decode cX6_at 4 = .ok (.iload_n 1, 1) := by decide +kernel
theorem dX6_at_5 : decode cX6_at 5 = .ok (.aload_n 0, 1) := by decide +kernel
theorem dX6_at_6 : decode cX6_at 6 = .ok (.getfield 15, 3) := by decide +kernel
theorem dX6_at_9 : decode cX6_at 9 = .ok (.if_icmp .ge 25, 3) := by decide +kernel
theorem dX6_at_12 : decode cX6_at 12 = .ok (.iload_n 1, 1) := by decide +kernel
theorem dX6_at_13 : decode cX6_at 13 = .ok (.aload_n 0, 1) := by decide +kernel
theorem dX6_at_14 : decode cX6_at 14 = .ok (.getfield 9, 3) := by decide +kernel
theorem dX6_at_17 : decode cX6_at 17 = .ok (.arraylength, 1) := by decide +kernel
theorem dX6_at_18 : decode cX6_at 18 = .ok (.if_icmp .ge 16, 3) := by decide +kernel
theorem dX6_at_21 : decode cX6_at 21 = .ok (.aload_n 0, 1) := by decide +kernel
theorem dX6_at_22 : decode cX6_at 22 = .ok (.getfield 9, 3) := by decide +kernel
theorem dX6_at_25 : decode cX6_at 25 = .ok (.iload_n 1, 1) := by decide +kernel
theorem dX6_at_26 : decode cX6_at 26 = .ok (.baload, 1) := by decide +kernel
theorem dX6_at_27 : decode cX6_at 27 = .ok (.sipush 255, 3) := by decide +kernel
theorem dX6_at_30 : decode cX6_at 30 = .ok (.iand, 1) := by decide +kernel
theorem dX6_at_31 : decode cX6_at 31 = .ok (.goto 4, 3) := by decide +kernel
theorem dX6_at_34 : decode cX6_at 34 = .ok (.iconst (-1), 1) := by decide +kernel
theorem dX6_at_35 : decode cX6_at 35 = .ok (.ireturn, 1) := by decide +kernel
theorem dX7_init_0 : decode cX7_init 0 = .ok (.aload_n 0, 1) := by decide +kernel
theorem dX7_init_1 : decode cX7_init 1 = .ok (.invokespecial 3, 3) := by decide +kernel
theorem dX7_init_4 : decode cX7_init 4 = .ok (.aload_n 0, 1) := by decide +kernel
theorem dX7_init_5 : decode cX7_init 5 = .ok (.aload_n 1, 1) := by decide +kernel
theorem dX7_init_6 : decode cX7_init 6 = .ok (.putfield 9, 3) := by decide +kernel
theorem dX7_init_9 : decode cX7_init 9 = .ok (.aload_n 0, 1) := by decide +kernel
theorem dX7_init_10 : decode cX7_init 10 = .ok (.aload_n 2, 1) := by decide +kernel
theorem dX7_init_11 : decode cX7_init 11 = .ok (.putfield 15, 3) := by decide +kernel
theorem dX7_init_14 : decode cX7_init 14 = .ok (.aload_n 0, 1) := by decide +kernel
theorem dX7_init_15 : decode cX7_init 15 = .ok (.aload_n 3, 1) := by decide +kernel
theorem dX7_init_16 : decode cX7_init 16 = .ok (.putfield 19, 3) := by decide +kernel
theorem dX7_init_19 : decode cX7_init 19 = .ok (.return_, 1) := by decide +kernel
theorem dX7_writeProof_0 : decode cX7_writeProof 0 = .ok (.aload_n 0, 1) := by decide +kernel
theorem dX7_writeProof_1 : decode cX7_writeProof 1 = .ok (.getfield 19, 3) := by decide +kernel
theorem dX7_writeProof_4 : decode cX7_writeProof 4 = .ok (.iconst 0, 1) := by decide +kernel
theorem dX7_writeProof_5 : decode cX7_writeProof 5 = .ok (.putfield 23, 3) := by decide +kernel
theorem dX7_writeProof_8 : decode cX7_writeProof 8 = .ok (.aload_n 0, 1) := by decide +kernel
theorem dX7_writeProof_9 : decode cX7_writeProof 9 = .ok (.iconst 0, 1) := by decide +kernel
theorem dX7_writeProof_10 : decode cX7_writeProof 10 = .ok (.putfield 29, 3) := by decide +kernel
theorem dX7_writeProof_13 : decode cX7_writeProof 13 = .ok (.aload_n 0, 1) := by decide +kernel
theorem dX7_writeProof_14 : decode cX7_writeProof 14 = .ok (.aload_n 0, 1) := by decide +kernel
theorem dX7_writeProof_15 : decode cX7_writeProof 15 = .ok (.getfield 15, 3) := by decide +kernel
theorem dX7_writeProof_18 : decode cX7_writeProof 18 = .ok (.getfield 33, 3) := by decide +kernel
theorem dX7_writeProof_21 : decode cX7_writeProof 21 = .ok (.putfield 38, 3) := by decide +kernel
theorem dX7_writeProof_24 : decode cX7_writeProof 24 = .ok (.aload_n 0, 1) := by decide +kernel
theorem dX7_writeProof_25 : decode cX7_writeProof 25 = .ok (.getfield 9, 3) := by decide +kernel
theorem dX7_writeProof_28 : decode cX7_writeProof 28 = .ok (.invokevirtual 41, 3) := by decide +kernel
theorem dX7_writeProof_31 : decode cX7_writeProof 31 = .ok (.aload_n 0, 1) := by decide +kernel
theorem dX7_writeProof_32 : decode cX7_writeProof 32 = .ok (.iconst 0, 1) := by decide +kernel
theorem dX7_writeProof_33 : decode cX7_writeProof 33 = .ok (.invokevirtual 46, 3) := by decide +kernel
theorem dX7_writeProof_36 : decode cX7_writeProof 36 = .ok (.aload_n 0, 1) := by decide +kernel
theorem dX7_writeProof_37 : decode cX7_writeProof 37 = .ok (.getfield 29, 3) := by decide +kernel
theorem dX7_writeProof_40 : decode cX7_writeProof 40 = .ok (.ifCond .eq 11, 3) := by decide +kernel
theorem dX7_writeProof_43 : decode cX7_writeProof 43 = .ok (.aload_n 0, 1) := by decide +kernel
theorem dX7_writeProof_44 : decode cX7_writeProof 44 = .ok (.getfield 19, 3) := by decide +kernel
theorem dX7_writeProof_47 : decode cX7_writeProof 47 = .ok (.iconst 0, 1) := by decide +kernel
theorem dX7_writeProof_48 : decode cX7_writeProof 48 = .ok (.putfield 23, 3) := by decide +kernel
theorem dX7_writeProof_51 : decode cX7_writeProof 51 = .ok (.aload_n 0, 1) := by decide +kernel
theorem dX7_writeProof_52 : decode cX7_writeProof 52 = .ok (.getfield 29, 3) := by decide +kernel
theorem dX7_writeProof_55 : decode cX7_writeProof 55 = .ok (.ifCond .ne 7, 3) := by decide +kernel
theorem dX7_writeProof_58 : decode cX7_writeProof 58 = .ok (.iconst 1, 1) := by decide +kernel
theorem dX7_writeProof_59 : decode cX7_writeProof 59 = .ok (.goto 4, 3) := by decide +kernel
theorem dX7_writeProof_62 : decode cX7_writeProof 62 = .ok (.iconst 0, 1) := by decide +kernel
theorem dX7_writeProof_63 : decode cX7_writeProof 63 = .ok (.ireturn, 1) := by decide +kernel
theorem dX7_writeTree_0 : decode cX7_writeTree 0 = .ok (.aload_n 0, 1) := by decide +kernel
theorem dX7_writeTree_1 : decode cX7_writeTree 1 = .ok (.getfield 29, 3) := by decide +kernel
theorem dX7_writeTree_4 : decode cX7_writeTree 4 = .ok (.ifCond .eq 4, 3) := by decide +kernel
theorem dX7_writeTree_7 : decode cX7_writeTree 7 = .ok (.return_, 1) := by decide +kernel
theorem dX7_writeTree_8 : decode cX7_writeTree 8 = .ok (.aload_n 0, 1) := by decide +kernel
theorem dX7_writeTree_9 : decode cX7_writeTree 9 = .ok (.getfield 15, 3) := by decide +kernel
theorem dX7_writeTree_12 : decode cX7_writeTree 12 = .ok (.getfield 33, 3) := by decide +kernel
theorem dX7_writeTree_15 : decode cX7_writeTree 15 = .ok (.istore_n 2, 1) := by decide +kernel
theorem dX7_writeTree_16 : decode cX7_writeTree 16 = .ok (.aload_n 0, 1) := by decide +kernel
theorem dX7_writeTree_17 : decode cX7_writeTree 17 = .ok (.getfield 9, 3) := by decide +kernel
theorem dX7_writeTree_20 : decode cX7_writeTree 20 = .ok (.invokevirtual 50, 3) := by decide +kernel
theorem dX7_writeTree_23 : decode cX7_writeTree 23 = .ok (.ifCond .ne 12, 3) := by decide +kernel
theorem dX7_writeTree_26 : decode cX7_writeTree 26 = .ok (.aload_n 0, 1) := by decide +kernel
theorem dX7_writeTree_27 : decode cX7_writeTree 27 = .ok (.bipush 46, 2) := by decide +kernel
theorem dX7_writeTree_29 : decode cX7_writeTree 29 = .ok (.invokevirtual 54, 3) := by decide +kernel
theorem dX7_writeTree_32 : decode cX7_writeTree 32 = .ok (.goto 50, 3) := by decide +kernel
theorem dX7_writeTree_35 : decode cX7_writeTree 35 = .ok (.iload_n 1, 1) := by decide +kernel
theorem dX7_writeTree_36 : decode cX7_writeTree 36 = .ok (.ifCond .le 30, 3) := by decide +kernel
theorem dX7_writeTree_39 : decode cX7_writeTree 39 = .ok (.aload_n 0, 1) := by decide +kernel
theorem dX7_writeTree_40 : decode cX7_writeTree 40 = .ok (.getfield 9, 3) := by decide +kernel
theorem dX7_writeTree_43 : decode cX7_writeTree 43 = .ok (.aload_n 0, 1) := by decide +kernel
theorem dX7_writeTree_44 : decode cX7_writeTree 44 = .ok (.getfield 15, 3) := by decide +kernel
theorem dX7_writeTree_47 : decode cX7_writeTree 47 = .ok (.iload_n 1, 1) := by decide +kernel
theorem dX7_writeTree_48 : decode cX7_writeTree 48 = .ok (.iconst 1, 1) := by decide +kernel
theorem dX7_writeTree_49 : decode cX7_writeTree 49 = .ok (.isub, 1) := by decide +kernel
theorem dX7_writeTree_50 : decode cX7_writeTree 50 = .ok (.invokevirtual 57, 3) := by decide +kernel
theorem dX7_writeTree_53 : decode cX7_writeTree 53 = .ok (.ifCond .ne 13, 3) := by decide +kernel
theorem dX7_writeTree_56 : decode cX7_writeTree 56 = .ok (.aload_n 0, 1) := by decide +kernel
theorem dX7_writeTree_57 : decode cX7_writeTree 57 = .ok (.iload_n 1, 1) := by decide +kernel
theorem dX7_writeTree_58 : decode cX7_writeTree 58 = .ok (.iconst 1, 1) := by decide +kernel
theorem dX7_writeTree_59 : decode cX7_writeTree 59 = .ok (.isub, 1) := by decide +kernel
theorem dX7_writeTree_60 : decode cX7_writeTree 60 = .ok (.invokevirtual 61, 3) := by decide +kernel
theorem dX7_writeTree_63 : decode cX7_writeTree 63 = .ok (.goto 19, 3) := by decide +kernel
theorem dX7_writeTree_66 : decode cX7_writeTree 66 = .ok (.iload_n 1, 1) := by decide +kernel
theorem dX7_writeTree_67 : decode cX7_writeTree 67 = .ok (.aload_n 0, 1) := by decide +kernel
theorem dX7_writeTree_68 : decode cX7_writeTree 68 = .ok (.getfield 9, 3) := by decide +kernel
theorem dX7_writeTree_71 : decode cX7_writeTree 71 = .ok (.getfield 64, 3) := by decide +kernel
theorem dX7_writeTree_74 : decode cX7_writeTree 74 = .ok (.if_icmp .ge 8, 3) := by decide +kernel
theorem dX7_writeTree_77 : decode cX7_writeTree 77 = .ok (.aload_n 0, 1) := by decide +kernel
theorem dX7_writeTree_78 : decode cX7_writeTree 78 = .ok (.iload_n 1, 1) := by decide +kernel
theorem dX7_writeTree_79 : decode cX7_writeTree 79 = .ok (.invokevirtual 67, 3) := by decide +kernel
theorem dX7_writeTree_82 : decode cX7_writeTree 82 = .ok (.aload_n 0, 1) := by decide +kernel
theorem dX7_writeTree_83 : decode cX7_writeTree 83 = .ok (.getfield 15, 3) := by decide +kernel
theorem dX7_writeTree_86 : decode cX7_writeTree 86 = .ok (.iload_n 2, 1) := by decide +kernel
theorem dX7_writeTree_87 : decode cX7_writeTree 87 = .ok (.invokevirtual 70, 3) := by decide +kernel
theorem dX7_writeTree_90 : decode cX7_writeTree 90 = .ok (.return_, 1) := by decide +kernel
theorem dX7_writeBranches_0 : decode cX7_writeBranches 0 = .ok (.aload_n 0, 1) := by decide +kernel
theorem dX7_writeBranches_1 : decode cX7_writeBranches 1 = .ok (.bipush 48, 2) := by decide +kernel
theorem dX7_writeBranches_3 : decode cX7_writeBranches 3 = .ok (.iload_n 1, 1) := by decide +kernel
theorem dX7_writeBranches_4 : decode cX7_writeBranches 4 = .ok (.iadd, 1) := by decide +kernel
theorem dX7_writeBranches_5 : decode cX7_writeBranches 5 = .ok (.invokevirtual 54, 3) := by decide +kernel
theorem dX7_writeBranches_8 : decode cX7_writeBranches 8 = .ok (.aload_n 0, 1) := by decide +kernel
theorem dX7_writeBranches_9 : decode cX7_writeBranches 9 = .ok (.bipush 40, 2) := by decide +kernel
theorem dX7_writeBranches_11 : decode cX7_writeBranches 11 = .ok (.invokevirtual 54, 3) := by decide +kernel
theorem dX7_writeBranches_14 : decode cX7_writeBranches 14 = .ok (.aload_n 0, 1) := by decide +kernel
theorem dX7_writeBranches_15 : decode cX7_writeBranches 15 = .ok (.getfield 9, 3) := by decide +kernel
theorem dX7_writeBranches_18 : decode cX7_writeBranches 18 = .ok (.getfield 73, 3) := by decide +kernel
theorem dX7_writeBranches_21 : decode cX7_writeBranches 21 = .ok (.iload_n 1, 1) := by decide +kernel
theorem dX7_writeBranches_22 : decode cX7_writeBranches 22 = .ok (.iconst 0, 1) := by decide +kernel
theorem dX7_writeBranches_23 : decode cX7_writeBranches 23 = .ok (.iastore, 1) := by decide +kernel
theorem dX7_writeBranches_24 : decode cX7_writeBranches 24 = .ok (.aload_n 0, 1) := by decide +kernel
theorem dX7_writeBranches_25 : decode cX7_writeBranches 25 = .ok (.iload_n 1, 1) := by decide +kernel
theorem dX7_writeBranches_26 : decode cX7_writeBranches 26 = .ok (.iconst 1, 1) := by decide +kernel
theorem dX7_writeBranches_27 : decode cX7_writeBranches 27 = .ok (.iadd, 1) := by decide +kernel
theorem dX7_writeBranches_28 : decode cX7_writeBranches 28 = .ok (.invokevirtual 46, 3) := by decide +kernel
theorem dX7_writeBranches_31 : decode cX7_writeBranches 31 = .ok (.aload_n 0, 1) := by decide +kernel
theorem dX7_writeBranches_32 : decode cX7_writeBranches 32 = .ok (.bipush 44, 2) := by decide +kernel
theorem dX7_writeBranches_34 : decode cX7_writeBranches 34 = .ok (.invokevirtual 54, 3) := by decide +kernel
theorem dX7_writeBranches_37 : decode cX7_writeBranches 37 = .ok (.aload_n 0, 1) := by decide +kernel
theorem dX7_writeBranches_38 : decode cX7_writeBranches 38 = .ok (.getfield 9, 3) := by decide +kernel
theorem dX7_writeBranches_41 : decode cX7_writeBranches 41 = .ok (.getfield 73, 3) := by decide +kernel
theorem dX7_writeBranches_44 : decode cX7_writeBranches 44 = .ok (.iload_n 1, 1) := by decide +kernel
theorem dX7_writeBranches_45 : decode cX7_writeBranches 45 = .ok (.iconst 2, 1) := by decide +kernel
theorem dX7_writeBranches_46 : decode cX7_writeBranches 46 = .ok (.iastore, 1) := by decide +kernel
theorem dX7_writeBranches_47 : decode cX7_writeBranches 47 = .ok (.aload_n 0, 1) := by decide +kernel
theorem dX7_writeBranches_48 : decode cX7_writeBranches 48 = .ok (.iload_n 1, 1) := by decide +kernel
theorem dX7_writeBranches_49 : decode cX7_writeBranches 49 = .ok (.iconst 1, 1) := by decide +kernel
theorem dX7_writeBranches_50 : decode cX7_writeBranches 50 = .ok (.iadd, 1) := by decide +kernel
theorem dX7_writeBranches_51 : decode cX7_writeBranches 51 = .ok (.invokevirtual 46, 3) := by decide +kernel
theorem dX7_writeBranches_54 : decode cX7_writeBranches 54 = .ok (.aload_n 0, 1) := by decide +kernel
theorem dX7_writeBranches_55 : decode cX7_writeBranches 55 = .ok (.getfield 9, 3) := by decide +kernel
theorem dX7_writeBranches_58 : decode cX7_writeBranches 58 = .ok (.getfield 73, 3) := by decide +kernel
theorem dX7_writeBranches_61 : decode cX7_writeBranches 61 = .ok (.iload_n 1, 1) := by decide +kernel
theorem dX7_writeBranches_62 : decode cX7_writeBranches 62 = .ok (.iconst 1, 1) := by decide +kernel
theorem dX7_writeBranches_63 : decode cX7_writeBranches 63 = .ok (.iastore, 1) := by decide +kernel
theorem dX7_writeBranches_64 : decode cX7_writeBranches 64 = .ok (.aload_n 0, 1) := by decide +kernel
theorem dX7_writeBranches_65 : decode cX7_writeBranches 65 = .ok (.bipush 41, 2) := by decide +kernel
theorem dX7_writeBranches_67 : decode cX7_writeBranches 67 = .ok (.invokevirtual 54, 3) := by decide +kernel
theorem dX7_writeBranches_70 : decode cX7_writeBranches 70 = .ok (.return_, 1) := by decide +kernel
theorem dX7_writeRound_0 : decode cX7_writeRound 0 = .ok (.aload_n 0, 1) := by decide +kernel
theorem dX7_writeRound_1 : decode cX7_writeRound 1 = .ok (.bipush 33, 2) := by decide +kernel
theorem dX7_writeRound_3 : decode cX7_writeRound 3 = .ok (.invokevirtual 54, 3) := by decide +kernel
theorem dX7_writeRound_6 : decode cX7_writeRound 6 = .ok (.aload_n 0, 1) := by decide +kernel
theorem dX7_writeRound_7 : decode cX7_writeRound 7 = .ok (.bipush 48, 2) := by decide +kernel
theorem dX7_writeRound_9 : decode cX7_writeRound 9 = .ok (.iload_n 1, 1) := by decide +kernel
theorem dX7_writeRound_10 : decode cX7_writeRound 10 = .ok (.iadd, 1) := by decide +kernel
theorem dX7_writeRound_11 : decode cX7_writeRound 11 = .ok (.invokevirtual 54, 3) := by decide +kernel
theorem dX7_writeRound_14 : decode cX7_writeRound 14 = .ok (.iconst 0, 1) := by decide +kernel
theorem dX7_writeRound_15 : decode cX7_writeRound 15 = .ok (.istore_n 2, 1) := by decide +kernel
theorem dX7_writeRound_16 : decode cX7_writeRound 16 = .ok (.iload_n 2, 1) := by decide +kernel
theorem dX7_writeRound_17 : decode cX7_writeRound 17 = .ok (.aload_n 0, 1) := by decide +kernel
theorem dX7_writeRound_18 : decode cX7_writeRound 18 = .ok (.getfield 15, 3) := by decide +kernel
theorem dX7_writeRound_21 : decode cX7_writeRound 21 = .ok (.getfield 77, 3) := by decide +kernel
theorem dX7_writeRound_24 : decode cX7_writeRound 24 = .ok (.if_icmp .ge 22, 3) := by decide +kernel
theorem dX7_writeRound_27 : decode cX7_writeRound 27 = .ok (.aload_n 0, 1) := by decide +kernel
theorem dX7_writeRound_28 : decode cX7_writeRound 28 = .ok (.aload_n 0, 1) := by decide +kernel
theorem dX7_writeRound_29 : decode cX7_writeRound 29 = .ok (.getfield 15, 3) := by decide +kernel
theorem dX7_writeRound_32 : decode cX7_writeRound 32 = .ok (.getfield 80, 3) := by decide +kernel
theorem dX7_writeRound_35 : decode cX7_writeRound 35 = .ok (.iload_n 2, 1) := by decide +kernel
theorem dX7_writeRound_36 : decode cX7_writeRound 36 = .ok (.iaload, 1) := by decide +kernel
theorem dX7_writeRound_37 : decode cX7_writeRound 37 = .ok (.invokevirtual 83, 3) := by decide +kernel
theorem dX7_writeRound_40 : decode cX7_writeRound 40 = .ok (.iinc 2 1, 3) := by decide +kernel
theorem dX7_writeRound_43 : decode cX7_writeRound 43 = .ok (.goto (-27), 3) := by decide +kernel
theorem dX7_writeRound_46 : decode cX7_writeRound 46 = .ok (.aload_n 0, 1) := by decide +kernel
theorem dX7_writeRound_47 : decode cX7_writeRound 47 = .ok (.bipush 59, 2) := by decide +kernel
theorem dX7_writeRound_49 : decode cX7_writeRound 49 = .ok (.invokevirtual 54, 3) := by decide +kernel
theorem dX7_writeRound_52 : decode cX7_writeRound 52 = .ok (.return_, 1) := by decide +kernel
theorem dX7_writeItem_0 : decode cX7_writeItem 0 = .ok (.iload_n 1, 1) := by decide +kernel
theorem dX7_writeItem_1 : decode cX7_writeItem 1 = .ok (.aload_n 0, 1) := by decide +kernel
theorem dX7_writeItem_2 : decode cX7_writeItem 2 = .ok (.getfield 38, 3) := by decide +kernel
theorem dX7_writeItem_5 : decode cX7_writeItem 5 = .ok (.if_icmp .lt 17, 3) := by decide +kernel
theorem dX7_writeItem_8 : decode cX7_writeItem 8 = .ok (.aload_n 0, 1) := by decide +kernel
theorem dX7_writeItem_9 : decode cX7_writeItem 9 = .ok (.bipush 48, 2) := by decide +kernel
theorem dX7_writeItem_11 : decode cX7_writeItem 11 = .ok (.iload_n 1, 1) := by decide +kernel
theorem dX7_writeItem_12 : decode cX7_writeItem 12 = .ok (.iadd, 1) := by decide +kernel
theorem dX7_writeItem_13 : decode cX7_writeItem 13 = .ok (.aload_n 0, 1) := by decide +kernel
theorem dX7_writeItem_14 : decode cX7_writeItem 14 = .ok (.getfield 38, 3) := by decide +kernel
theorem dX7_writeItem_17 : decode cX7_writeItem 17 = .ok (.isub, 1) := by decide +kernel
theorem dX7_writeItem_18 : decode cX7_writeItem 18 = .ok (.invokevirtual 54, 3) := by decide +kernel
theorem dX7_writeItem_21 : decode cX7_writeItem 21 = .ok (.return_, 1) := by decide +kernel
theorem dX7_writeItem_22 : decode cX7_writeItem 22 = .ok (.aload_n 0, 1) := by decide +kernel
theorem dX7_writeItem_23 : decode cX7_writeItem 23 = .ok (.bipush 91, 2) := by decide +kernel
theorem dX7_writeItem_25 : decode cX7_writeItem 25 = .ok (.invokevirtual 54, 3) := by decide +kernel
theorem dX7_writeItem_28 : decode cX7_writeItem 28 = .ok (.iload_n 1, 1) := by decide +kernel
theorem dX7_writeItem_29 : decode cX7_writeItem 29 = .ok (.bipush 10, 2) := by decide +kernel
theorem dX7_writeItem_31 : decode cX7_writeItem 31 = .ok (.if_icmp .lt 14, 3) := by decide +kernel
theorem dX7_writeItem_34 : decode cX7_writeItem 34 = .ok (.aload_n 0, 1) := by decide +kernel
theorem dX7_writeItem_35 : decode cX7_writeItem 35 = .ok (.bipush 48, 2) := by decide +kernel
theorem dX7_writeItem_37 : decode cX7_writeItem 37 = .ok (.iload_n 1, 1) := by decide +kernel
theorem dX7_writeItem_38 : decode cX7_writeItem 38 = .ok (.bipush 10, 2) := by decide +kernel
theorem dX7_writeItem_40 : decode cX7_writeItem 40 = .ok (.idiv, 1) := by decide +kernel
theorem dX7_writeItem_41 : decode cX7_writeItem 41 = .ok (.iadd, 1) := by decide +kernel
theorem dX7_writeItem_42 : decode cX7_writeItem 42 = .ok (.invokevirtual 54, 3) := by decide +kernel
theorem dX7_writeItem_45 : decode cX7_writeItem 45 = .ok (.aload_n 0, 1) := by decide +kernel
theorem dX7_writeItem_46 : decode cX7_writeItem 46 = .ok (.bipush 48, 2) := by decide +kernel
theorem dX7_writeItem_48 : decode cX7_writeItem 48 = .ok (.iload_n 1, 1) := by decide +kernel
theorem dX7_writeItem_49 : decode cX7_writeItem 49 = .ok (.bipush 10, 2) := by decide +kernel
theorem dX7_writeItem_51 : decode cX7_writeItem 51 = .ok (.irem, 1) := by decide +kernel
theorem dX7_writeItem_52 : decode cX7_writeItem 52 = .ok (.iadd, 1) := by decide +kernel
theorem dX7_writeItem_53 : decode cX7_writeItem 53 = .ok (.invokevirtual 54, 3) := by decide +kernel
theorem dX7_writeItem_56 : decode cX7_writeItem 56 = .ok (.aload_n 0, 1) := by decide +kernel
theorem dX7_writeItem_57 : decode cX7_writeItem 57 = .ok (.bipush 93, 2) := by decide +kernel
theorem dX7_writeItem_59 : decode cX7_writeItem 59 = .ok (.invokevirtual 54, 3) := by decide +kernel
theorem dX7_writeItem_62 : decode cX7_writeItem 62 = .ok (.return_, 1) := by decide +kernel
theorem dX7_put_0 : decode cX7_put 0 = .ok (.aload_n 0, 1) := by decide +kernel
theorem dX7_put_1 : decode cX7_put 1 = .ok (.getfield 19, 3) := by decide +kernel
theorem dX7_put_4 : decode cX7_put 4 = .ok (.iload_n 1, 1) := by decide +kernel
theorem dX7_put_5 : decode cX7_put 5 = .ok (.invokevirtual 86, 3) := by decide +kernel
theorem dX7_put_8 : decode cX7_put 8 = .ok (.ifCond .ne 8, 3) := by decide +kernel
theorem dX7_put_11 : decode cX7_put 11 = .ok (.aload_n 0, 1) := by decide +kernel
theorem dX7_put_12 : decode cX7_put 12 = .ok (.iconst 1, 1) := by decide +kernel
theorem dX7_put_13 : decode cX7_put 13 = .ok (.putfield 29, 3) := by decide +kernel
theorem dX7_put_16 : decode cX7_put 16 = .ok (.return_, 1) := by decide +kernel
theorem dX8_init_0 : decode cX8_init 0 = .ok (.aload_n 0, 1) := by decide +kernel
theorem dX8_init_1 : decode cX8_init 1 = .ok (.invokespecial 3, 3) := by decide +kernel
theorem dX8_init_4 : decode cX8_init 4 = .ok (.aload_n 0, 1) := by decide +kernel
theorem dX8_init_5 : decode cX8_init 5 = .ok (.new 9, 3) := by decide +kernel
theorem dX8_init_8 : decode cX8_init 8 = .ok (.dup, 1) := by decide +kernel
theorem dX8_init_9 : decode cX8_init 9 = .ok (.invokespecial 11, 3) := by decide +kernel
theorem dX8_init_12 : decode cX8_init 12 = .ok (.putfield 12, 3) := by decide +kernel
theorem dX8_init_15 : decode cX8_init 15 = .ok (.aload_n 0, 1) := by decide +kernel
theorem dX8_init_16 : decode cX8_init 16 = .ok (.bipush 20, 2) := by decide +kernel
theorem dX8_init_18 : decode cX8_init 18 = .ok (.newarray .int, 2) := by decide +kernel
theorem dX8_init_20 : decode cX8_init 20 = .ok (.putfield 18, 3) := by decide +kernel
theorem dX8_init_23 : decode cX8_init 23 = .ok (.aload_n 0, 1) := by decide +kernel
theorem dX8_init_24 : decode cX8_init 24 = .ok (.bipush 16, 2) := by decide +kernel
theorem dX8_init_26 : decode cX8_init 26 = .ok (.newarray .int, 2) := by decide +kernel
theorem dX8_init_28 : decode cX8_init 28 = .ok (.putfield 22, 3) := by decide +kernel
theorem dX8_init_31 : decode cX8_init 31 = .ok (.aload_n 0, 1) := by decide +kernel
theorem dX8_init_32 : decode cX8_init 32 = .ok (.new 25, 3) := by decide +kernel
theorem dX8_init_35 : decode cX8_init 35 = .ok (.dup, 1) := by decide +kernel
theorem dX8_init_36 : decode cX8_init 36 = .ok (.sipush 400, 3) := by decide +kernel
theorem dX8_init_39 : decode cX8_init 39 = .ok (.invokespecial 27, 3) := by decide +kernel
theorem dX8_init_42 : decode cX8_init 42 = .ok (.putfield 30, 3) := by decide +kernel
theorem dX8_init_45 : decode cX8_init 45 = .ok (.aload_n 0, 1) := by decide +kernel
theorem dX8_init_46 : decode cX8_init 46 = .ok (.new 25, 3) := by decide +kernel
theorem dX8_init_49 : decode cX8_init 49 = .ok (.dup, 1) := by decide +kernel
theorem dX8_init_50 : decode cX8_init 50 = .ok (.sipush 6000, 3) := by decide +kernel
theorem dX8_init_53 : decode cX8_init 53 = .ok (.invokespecial 27, 3) := by decide +kernel
theorem dX8_init_56 : decode cX8_init 56 = .ok (.putfield 34, 3) := by decide +kernel
theorem dX8_init_59 : decode cX8_init 59 = .ok (.aload_n 0, 1) := by decide +kernel
theorem dX8_init_60 : decode cX8_init 60 = .ok (.new 37, 3) := by decide +kernel
theorem dX8_init_63 : decode cX8_init 63 = .ok (.dup, 1) := by decide +kernel
theorem dX8_init_64 : decode cX8_init 64 = .ok (.invokespecial 39, 3) := by decide +kernel
theorem dX8_init_67 : decode cX8_init 67 = .ok (.putfield 40, 3) := by decide +kernel
theorem dX8_init_70 : decode cX8_init 70 = .ok (.aload_n 0, 1) := by decide +kernel
theorem dX8_init_71 : decode cX8_init 71 = .ok (.new 37, 3) := by decide +kernel
theorem dX8_init_74 : decode cX8_init 74 = .ok (.dup, 1) := by decide +kernel
theorem dX8_init_75 : decode cX8_init 75 = .ok (.invokespecial 39, 3) := by decide +kernel
theorem dX8_init_78 : decode cX8_init 78 = .ok (.putfield 44, 3) := by decide +kernel
theorem dX8_init_81 : decode cX8_init 81 = .ok (.aload_n 0, 1) := by decide +kernel
theorem dX8_init_82 : decode cX8_init 82 = .ok (.new 47, 3) := by decide +kernel
theorem dX8_init_85 : decode cX8_init 85 = .ok (.dup, 1) := by decide +kernel
theorem dX8_init_86 : decode cX8_init 86 = .ok (.aload_n 0, 1) := by decide +kernel
theorem dX8_init_87 : decode cX8_init 87 = .ok (.getfield 30, 3) := by decide +kernel
theorem dX8_init_90 : decode cX8_init 90 = .ok (.aload_n 0, 1) := by decide +kernel
theorem dX8_init_91 : decode cX8_init 91 = .ok (.getfield 44, 3) := by decide +kernel
theorem dX8_init_94 : decode cX8_init 94 = .ok (.invokespecial 49, 3) := by decide +kernel
theorem dX8_init_97 : decode cX8_init 97 = .ok (.putfield 52, 3) := by decide +kernel
theorem dX8_init_100 : decode cX8_init 100 = .ok (.aload_n 0, 1) := by decide +kernel
theorem dX8_init_101 : decode cX8_init 101 = .ok (.new 56, 3) := by decide +kernel
theorem dX8_init_104 : decode cX8_init 104 = .ok (.dup, 1) := by decide +kernel
theorem dX8_init_105 : decode cX8_init 105 = .ok (.aload_n 0, 1) := by decide +kernel
theorem dX8_init_106 : decode cX8_init 106 = .ok (.getfield 40, 3) := by decide +kernel
theorem dX8_init_109 : decode cX8_init 109 = .ok (.aload_n 0, 1) := by decide +kernel
theorem dX8_init_110 : decode cX8_init 110 = .ok (.getfield 12, 3) := by decide +kernel
theorem dX8_init_113 : decode cX8_init 113 = .ok (.invokespecial 58, 3) := by decide +kernel
theorem dX8_init_116 : decode cX8_init 116 = .ok (.putfield 61, 3) := by decide +kernel
theorem dX8_init_119 : decode cX8_init 119 = .ok (.aload_n 0, 1) := by decide +kernel
theorem dX8_init_120 : decode cX8_init 120 = .ok (.new 65, 3) := by decide +kernel
theorem dX8_init_123 : decode cX8_init 123 = .ok (.dup, 1) := by decide +kernel
theorem dX8_init_124 : decode cX8_init 124 = .ok (.aload_n 0, 1) := by decide +kernel
theorem dX8_init_125 : decode cX8_init 125 = .ok (.getfield 40, 3) := by decide +kernel
theorem dX8_init_128 : decode cX8_init 128 = .ok (.aload_n 0, 1) := by decide +kernel
theorem dX8_init_129 : decode cX8_init 129 = .ok (.getfield 12, 3) := by decide +kernel
theorem dX8_init_132 : decode cX8_init 132 = .ok (.aload_n 0, 1) := by decide +kernel
theorem dX8_init_133 : decode cX8_init 133 = .ok (.getfield 34, 3) := by decide +kernel
theorem dX8_init_136 : decode cX8_init 136 = .ok (.invokespecial 67, 3) := by decide +kernel
theorem dX8_init_139 : decode cX8_init 139 = .ok (.putfield 70, 3) := by decide +kernel
theorem dX8_init_142 : decode cX8_init 142 = .ok (.aload_n 0, 1) := by decide +kernel
theorem dX8_init_143 : decode cX8_init 143 = .ok (.new 74, 3) := by decide +kernel
theorem dX8_init_146 : decode cX8_init 146 = .ok (.dup, 1) := by decide +kernel
theorem dX8_init_147 : decode cX8_init 147 = .ok (.aload_n 0, 1) := by decide +kernel
theorem dX8_init_148 : decode cX8_init 148 = .ok (.getfield 40, 3) := by decide +kernel
theorem dX8_init_151 : decode cX8_init 151 = .ok (.aload_n 0, 1) := by decide +kernel
theorem dX8_init_152 : decode cX8_init 152 = .ok (.getfield 12, 3) := by decide +kernel
theorem dX8_init_155 : decode cX8_init 155 = .ok (.aload_n 0, 1) := by decide +kernel
theorem dX8_init_156 : decode cX8_init 156 = .ok (.getfield 34, 3) := by decide +kernel
theorem dX8_init_159 : decode cX8_init 159 = .ok (.invokespecial 76, 3) := by decide +kernel
theorem dX8_init_162 : decode cX8_init 162 = .ok (.putfield 77, 3) := by decide +kernel
theorem dX8_init_165 : decode cX8_init 165 = .ok (.return_, 1) := by decide +kernel
theorem dX8_add_0 : decode cX8_add 0 = .ok (.aload_n 0, 1) := by decide +kernel
theorem dX8_add_1 : decode cX8_add 1 = .ok (.iload_n 1, 1) := by decide +kernel
theorem dX8_add_2 : decode cX8_add 2 = .ok (.invokevirtual 81, 3) := by decide +kernel
theorem dX8_add_5 : decode cX8_add 5 = .ok (.aload_n 0, 1) := by decide +kernel
theorem dX8_add_6 : decode cX8_add 6 = .ok (.iload_n 2, 1) := by decide +kernel
theorem dX8_add_7 : decode cX8_add 7 = .ok (.invokevirtual 81, 3) := by decide +kernel
theorem dX8_add_10 : decode cX8_add 10 = .ok (.iload_n 3, 1) := by decide +kernel
theorem dX8_add_11 : decode cX8_add 11 = .ok (.ldc 84, 2) := by decide +kernel
theorem dX8_add_13 : decode cX8_add 13 = .ok (.if_icmp .lt 9, 3) := by decide +kernel
theorem dX8_add_16 : decode cX8_add 16 = .ok (.iload_n 3, 1) := by decide +kernel
theorem dX8_add_17 : decode cX8_add 17 = .ok (.ldc 85, 2) := by decide +kernel
theorem dX8_add_19 : decode cX8_add 19 = .ok (.if_icmp .le 13, 3) := by decide +kernel
theorem dX8_add_22 : decode cX8_add 22 = .ok (.new 86, 3) := by decide +kernel
theorem dX8_add_25 : decode cX8_add 25 = .ok (.dup, 1) := by decide +kernel
theorem dX8_add_26 : decode cX8_add 26 = .ok (.ldc 88, 2) := by decide +kernel
theorem dX8_add_28 : decode cX8_add 28 = .ok (.invokespecial 90, 3) := by decide +kernel
theorem dX8_add_31 : decode cX8_add 31 = .ok (.athrow, 1) := by decide +kernel
theorem dX8_add_32 : decode cX8_add 32 = .ok (.aload_n 0, 1) := by decide +kernel
theorem dX8_add_33 : decode cX8_add 33 = .ok (.getfield 12, 3) := by decide +kernel
theorem dX8_add_36 : decode cX8_add 36 = .ok (.getfield 93, 3) := by decide +kernel
theorem dX8_add_39 : decode cX8_add 39 = .ok (.bipush 60, 2) := by decide +kernel
theorem dX8_add_41 : decode cX8_add 41 = .ok (.if_icmp .lt 13, 3) := by decide +kernel
theorem dX8_add_44 : decode cX8_add 44 = .ok (.new 97, 3) := by decide +kernel
theorem dX8_add_47 : decode cX8_add 47 = .ok (.dup, 1) := by decide +kernel
theorem dX8_add_48 : decode cX8_add 48 = .ok (.ldc 99, 2) := by decide +kernel
theorem dX8_add_50 : decode cX8_add 50 = .ok (.invokespecial 101, 3) := by decide +kernel
theorem dX8_add_53 : decode cX8_add 53 = .ok (.athrow, 1) := by decide +kernel
theorem dX8_add_54 : decode cX8_add 54 = .ok (.aload_n 0, 1) := by decide +kernel
theorem dX8_add_55 : decode cX8_add 55 = .ok (.getfield 12, 3) := by decide +kernel
theorem dX8_add_58 : decode cX8_add 58 = .ok (.iload_n 1, 1) := by decide +kernel
theorem dX8_add_59 : decode cX8_add 59 = .ok (.iload_n 2, 1) := by decide +kernel
theorem dX8_add_60 : decode cX8_add 60 = .ok (.iload_n 3, 1) := by decide +kernel
theorem dX8_add_61 : decode cX8_add 61 = .ok (.invokevirtual 102, 3) := by decide +kernel
theorem dX8_add_64 : decode cX8_add 64 = .ok (.ifCond .eq 9, 3) := by decide +kernel
theorem dX8_add_67 : decode cX8_add 67 = .ok (.aload_n 0, 1) := by decide +kernel
theorem dX8_add_68 : decode cX8_add 68 = .ok (.invokevirtual 106, 3) := by decide +kernel
theorem dX8_add_71 : decode cX8_add 71 = .ok (.iconst (-1), 1) := by decide +kernel
theorem dX8_add_72 : decode cX8_add 72 = .ok (.ireturn, 1) := by decide +kernel
theorem dX8_add_73 : decode cX8_add 73 = .ok (.aload_n 0, 1) := by decide +kernel
theorem dX8_add_74 : decode cX8_add 74 = .ok (.getfield 12, 3) := by decide +kernel
theorem dX8_add_77 : decode cX8_add 77 = .ok (.iload_n 1, 1) := by decide +kernel
theorem dX8_add_78 : decode cX8_add 78 = .ok (.iload_n 2, 1) := by decide +kernel
theorem dX8_add_79 : decode cX8_add 79 = .ok (.iload_n 3, 1) := by decide +kernel
theorem dX8_add_80 : decode cX8_add 80 = .ok (.invokevirtual 109, 3) := by decide +kernel
theorem dX8_add_83 : decode cX8_add 83 = .ok (.aload_n 0, 1) := by decide +kernel
theorem dX8_add_84 : decode cX8_add 84 = .ok (.getfield 61, 3) := by decide +kernel
theorem dX8_add_87 : decode cX8_add 87 = .ok (.iconst 0, 1) := by decide +kernel
theorem dX8_add_88 : decode cX8_add 88 = .ok (.putfield 113, 3) := by decide +kernel
theorem dX8_add_91 : decode cX8_add 91 = .ok (.aload_n 0, 1) := by decide +kernel
theorem dX8_add_92 : decode cX8_add 92 = .ok (.getfield 12, 3) := by decide +kernel
theorem dX8_add_95 : decode cX8_add 95 = .ok (.getfield 93, 3) := by decide +kernel
theorem dX8_add_98 : decode cX8_add 98 = .ok (.iconst 1, 1) := by decide +kernel
theorem dX8_add_99 : decode cX8_add 99 = .ok (.isub, 1) := by decide +kernel
theorem dX8_add_100 : decode cX8_add 100 = .ok (.ireturn, 1) := by decide +kernel
theorem dX8_push_0 : decode cX8_push 0 = .ok (.aload_n 0, 1) := by decide +kernel
theorem dX8_push_1 : decode cX8_push 1 = .ok (.getfield 117, 3) := by decide +kernel
theorem dX8_push_4 : decode cX8_push 4 = .ok (.bipush 20, 2) := by decide +kernel
theorem dX8_push_6 : decode cX8_push 6 = .ok (.if_icmp .lt 13, 3) := by decide +kernel
theorem dX8_push_9 : decode cX8_push 9 = .ok (.new 97, 3) := by decide +kernel
theorem dX8_push_12 : decode cX8_push 12 = .ok (.dup, 1) := by decide +kernel
theorem dX8_push_13 : decode cX8_push 13 = .ok (.ldc 120, 2) := by decide +kernel
theorem dX8_push_15 : decode cX8_push 15 = .ok (.invokespecial 101, 3) := by decide +kernel
theorem dX8_push_18 : decode cX8_push 18 = .ok (.athrow, 1) := by decide +kernel
theorem dX8_push_19 : decode cX8_push 19 = .ok (.aload_n 0, 1) := by decide +kernel
theorem dX8_push_20 : decode cX8_push 20 = .ok (.getfield 18, 3) := by decide +kernel
theorem dX8_push_23 : decode cX8_push 23 = .ok (.aload_n 0, 1) := by decide +kernel
theorem dX8_push_24 : decode cX8_push 24 = .ok (.getfield 117, 3) := by decide +kernel
theorem dX8_push_27 : decode cX8_push 27 = .ok (.aload_n 0, 1) := by decide +kernel
theorem dX8_push_28 : decode cX8_push 28 = .ok (.getfield 12, 3) := by decide +kernel
theorem dX8_push_31 : decode cX8_push 31 = .ok (.getfield 93, 3) := by decide +kernel
theorem dX8_push_34 : decode cX8_push 34 = .ok (.iastore, 1) := by decide +kernel
theorem dX8_push_35 : decode cX8_push 35 = .ok (.aload_n 0, 1) := by decide +kernel
theorem dX8_push_36 : decode cX8_push 36 = .ok (.dup, 1) := by decide +kernel
theorem dX8_push_37 : decode cX8_push 37 = .ok (.getfield 117, 3) := by decide +kernel
theorem dX8_push_40 : decode cX8_push 40 = .ok (.iconst 1, 1) := by decide +kernel
theorem dX8_push_41 : decode cX8_push 41 = .ok (.iadd, 1) := by decide +kernel
theorem dX8_push_42 : decode cX8_push 42 = .ok (.putfield 117, 3) := by decide +kernel
theorem dX8_push_45 : decode cX8_push 45 = .ok (.aload_n 0, 1) := by decide +kernel
theorem dX8_push_46 : decode cX8_push 46 = .ok (.getfield 117, 3) := by decide +kernel
theorem dX8_push_49 : decode cX8_push 49 = .ok (.ireturn, 1) := by decide +kernel
theorem dX8_pop_0 : decode cX8_pop 0 = .ok (.iload_n 1, 1) := by decide +kernel
theorem dX8_pop_1 : decode cX8_pop 1 = .ok (.ifCond .lt 11, 3) := by decide +kernel
theorem dX8_pop_4 : decode cX8_pop 4 = .ok (.iload_n 1, 1) := by decide +kernel
theorem dX8_pop_5 : decode cX8_pop 5 = .ok (.aload_n 0, 1) := by decide +kernel
theorem dX8_pop_6 : decode cX8_pop 6 = .ok (.getfield 117, 3) := by decide +kernel
theorem dX8_pop_9 : decode cX8_pop 9 = .ok (.if_icmp .le 13, 3) := by decide +kernel
theorem dX8_pop_12 : decode cX8_pop 12 = .ok (.new 86, 3) := by decide +kernel
theorem dX8_pop_15 : decode cX8_pop 15 = .ok (.dup, 1) := by decide +kernel
theorem dX8_pop_16 : decode cX8_pop 16 = .ok (.ldc 122, 2) := by decide +kernel
theorem dX8_pop_18 : decode cX8_pop 18 = .ok (.invokespecial 90, 3) := by decide +kernel
theorem dX8_pop_21 : decode cX8_pop 21 = .ok (.athrow, 1) := by decide +kernel
theorem dX8_pop_22 : decode cX8_pop 22 = .ok (.iload_n 1, 1) := by decide +kernel
theorem dX8_pop_23 : decode cX8_pop 23 = .ok (.ifCond .le 37, 3) := by decide +kernel
theorem dX8_pop_26 : decode cX8_pop 26 = .ok (.aload_n 0, 1) := by decide +kernel
theorem dX8_pop_27 : decode cX8_pop 27 = .ok (.dup, 1) := by decide +kernel
theorem dX8_pop_28 : decode cX8_pop 28 = .ok (.getfield 117, 3) := by decide +kernel
theorem dX8_pop_31 : decode cX8_pop 31 = .ok (.iload_n 1, 1) := by decide +kernel
theorem dX8_pop_32 : decode cX8_pop 32 = .ok (.isub, 1) := by decide +kernel
theorem dX8_pop_33 : decode cX8_pop 33 = .ok (.putfield 117, 3) := by decide +kernel
theorem dX8_pop_36 : decode cX8_pop 36 = .ok (.aload_n 0, 1) := by decide +kernel
theorem dX8_pop_37 : decode cX8_pop 37 = .ok (.getfield 12, 3) := by decide +kernel
theorem dX8_pop_40 : decode cX8_pop 40 = .ok (.aload_n 0, 1) := by decide +kernel
theorem dX8_pop_41 : decode cX8_pop 41 = .ok (.getfield 18, 3) := by decide +kernel
theorem dX8_pop_44 : decode cX8_pop 44 = .ok (.aload_n 0, 1) := by decide +kernel
theorem dX8_pop_45 : decode cX8_pop 45 = .ok (.getfield 117, 3) := by decide +kernel
theorem dX8_pop_48 : decode cX8_pop 48 = .ok (.iaload, 1) := by decide +kernel
theorem dX8_pop_49 : decode cX8_pop 49 = .ok (.invokevirtual 124, 3) := by decide +kernel
theorem dX8_pop_52 : decode cX8_pop 52 = .ok (.aload_n 0, 1) := by decide +kernel
theorem dX8_pop_53 : decode cX8_pop 53 = .ok (.getfield 61, 3) := by decide +kernel
theorem dX8_pop_56 : decode cX8_pop 56 = .ok (.iconst 0, 1) := by decide +kernel
theorem dX8_pop_57 : decode cX8_pop 57 = .ok (.putfield 113, 3) := by decide +kernel
theorem dX8_pop_60 : decode cX8_pop 60 = .ok (.aload_n 0, 1) := by decide +kernel
theorem dX8_pop_61 : decode cX8_pop 61 = .ok (.getfield 12, 3) := by decide +kernel
theorem dX8_pop_64 : decode cX8_pop 64 = .ok (.getfield 93, 3) := by decide +kernel
theorem dX8_pop_67 : decode cX8_pop 67 = .ok (.ireturn, 1) := by decide +kernel
theorem dX8_core_0 : decode cX8_core 0 = .ok (.iload_n 1, 1) := by decide +kernel
theorem dX8_core_1 : decode cX8_core 1 = .ok (.ifCond .lt 11, 3) := by decide +kernel
theorem dX8_core_4 : decode cX8_core 4 = .ok (.iload_n 1, 1) := by decide +kernel
theorem dX8_core_5 : decode cX8_core 5 = .ok (.aload_n 0, 1) := by decide +kernel
theorem dX8_core_6 : decode cX8_core 6 = .ok (.getfield 127, 3) := by decide +kernel
theorem dX8_core_9 : decode cX8_core 9 = .ok (.if_icmp .lt 13, 3) := by decide +kernel
theorem dX8_core_12 : decode cX8_core 12 = .ok (.new 130, 3) := by decide +kernel
theorem dX8_core_15 : decode cX8_core 15 = .ok (.dup, 1) := by decide +kernel
theorem dX8_core_16 : decode cX8_core 16 = .ok (.ldc 132, 2) := by decide +kernel
theorem dX8_core_18 : decode cX8_core 18 = .ok (.invokespecial 134, 3) := by decide +kernel
theorem dX8_core_21 : decode cX8_core 21 = .ok (.athrow, 1) := by decide +kernel
theorem dX8_core_22 : decode cX8_core 22 = .ok (.aload_n 0, 1) := by decide +kernel
theorem dX8_core_23 : decode cX8_core 23 = .ok (.getfield 22, 3) := by decide +kernel
theorem dX8_core_26 : decode cX8_core 26 = .ok (.iload_n 1, 1) := by decide +kernel
theorem dX8_core_27 : decode cX8_core 27 = .ok (.iaload, 1) := by decide +kernel
theorem dX8_core_28 : decode cX8_core 28 = .ok (.ireturn, 1) := by decide +kernel
theorem dX8_value_0 : decode cX8_value 0 = .ok (.aload_n 0, 1) := by decide +kernel
theorem dX8_value_1 : decode cX8_value 1 = .ok (.iload_n 1, 1) := by decide +kernel
theorem dX8_value_2 : decode cX8_value 2 = .ok (.invokevirtual 81, 3) := by decide +kernel
theorem dX8_value_5 : decode cX8_value 5 = .ok (.aload_n 0, 1) := by decide +kernel
theorem dX8_value_6 : decode cX8_value 6 = .ok (.getfield 12, 3) := by decide +kernel
theorem dX8_value_9 : decode cX8_value 9 = .ok (.iload_n 1, 1) := by decide +kernel
theorem dX8_value_10 : decode cX8_value 10 = .ok (.invokevirtual 135, 3) := by decide +kernel
theorem dX8_value_13 : decode cX8_value 13 = .ok (.lreturn, 1) := by decide +kernel
theorem dX8_bound_0 : decode cX8_bound 0 = .ok (.aload_n 0, 1) := by decide +kernel
theorem dX8_bound_1 : decode cX8_bound 1 = .ok (.iload_n 1, 1) := by decide +kernel
theorem dX8_bound_2 : decode cX8_bound 2 = .ok (.invokevirtual 81, 3) := by decide +kernel
theorem dX8_bound_5 : decode cX8_bound 5 = .ok (.aload_n 0, 1) := by decide +kernel
theorem dX8_bound_6 : decode cX8_bound 6 = .ok (.iload_n 2, 1) := by decide +kernel
theorem dX8_bound_7 : decode cX8_bound 7 = .ok (.invokevirtual 81, 3) := by decide +kernel
theorem dX8_bound_10 : decode cX8_bound 10 = .ok (.aload_n 0, 1) := by decide +kernel
theorem dX8_bound_11 : decode cX8_bound 11 = .ok (.getfield 12, 3) := by decide +kernel
theorem dX8_bound_14 : decode cX8_bound 14 = .ok (.iload_n 1, 1) := by decide +kernel
theorem dX8_bound_15 : decode cX8_bound 15 = .ok (.iload_n 2, 1) := by decide +kernel
theorem dX8_bound_16 : decode cX8_bound 16 = .ok (.iconst (-1), 1) := by decide +kernel
theorem dX8_bound_17 : decode cX8_bound 17 = .ok (.invokevirtual 139, 3) := by decide +kernel
theorem dX8_bound_20 : decode cX8_bound 20 = .ok (.lstore_n 3, 1) := by decide +kernel
theorem dX8_bound_21 : decode cX8_bound 21 = .ok (.lload_n 3, 1) := by decide +kernel
theorem dX8_bound_22 : decode cX8_bound 22 = .ok (.ldc2_w 143, 3) := by decide +kernel
theorem dX8_bound_25 : decode cX8_bound 25 = .ok (.lcmp, 1) := by decide +kernel
theorem dX8_bound_26 : decode cX8_bound 26 = .ok (.ifCond .ne 9, 3) := by decide +kernel
theorem dX8_bound_29 : decode cX8_bound 29 = .ok (.ldc2_w 145, 3) := by decide +kernel
theorem dX8_bound_32 : decode cX8_bound 32 = .ok (.goto 4, 3) := by decide +kernel
theorem dX8_bound_35 : decode cX8_bound 35 = .ok (.lload_n 3, 1) := by decide +kernel
theorem dX8_bound_36 : decode cX8_bound 36 = .ok (.lreturn, 1) := by decide +kernel
theorem dX8_why_0 : decode cX8_why 0 = .ok (.aload_n 0, 1) := by decide +kernel
theorem dX8_why_1 : decode cX8_why 1 = .ok (.iload_n 1, 1) := by decide +kernel
theorem dX8_why_2 : decode cX8_why 2 = .ok (.invokevirtual 81, 3) := by decide +kernel
theorem dX8_why_5 : decode cX8_why 5 = .ok (.aload_n 0, 1) := by decide +kernel
theorem dX8_why_6 : decode cX8_why 6 = .ok (.iload_n 2, 1) := by decide +kernel
theorem dX8_why_7 : decode cX8_why 7 = .ok (.invokevirtual 81, 3) := by decide +kernel
theorem dX8_why_10 : decode cX8_why 10 = .ok (.iload_n 3, 1) := by decide +kernel
theorem dX8_why_11 : decode cX8_why 11 = .ok (.ifCond .ge 13, 3) := by decide +kernel
theorem dX8_why_14 : decode cX8_why 14 = .ok (.new 86, 3) := by decide +kernel
theorem dX8_why_17 : decode cX8_why 17 = .ok (.dup, 1) := by decide +kernel
theorem dX8_why_18 : decode cX8_why 18 = .ok (.ldc 147, 2) := by decide +kernel
theorem dX8_why_20 : decode cX8_why 20 = .ok (.invokespecial 90, 3) := by decide +kernel
theorem dX8_why_23 : decode cX8_why 23 = .ok (.athrow, 1) := by decide +kernel
theorem dX8_why_24 : decode cX8_why 24 = .ok (.aload_n 0, 1) := by decide +kernel
theorem dX8_why_25 : decode cX8_why 25 = .ok (.getfield 12, 3) := by decide +kernel
theorem dX8_why_28 : decode cX8_why 28 = .ok (.iload_n 1, 1) := by decide +kernel
theorem dX8_why_29 : decode cX8_why 29 = .ok (.iload_n 2, 1) := by decide +kernel
theorem dX8_why_30 : decode cX8_why 30 = .ok (.iconst (-1), 1) := by decide +kernel
theorem dX8_why_31 : decode cX8_why 31 = .ok (.invokevirtual 139, 3) := by decide +kernel
theorem dX8_why_34 : decode cX8_why 34 = .ok (.lstore 4, 2) := by decide +kernel
theorem dX8_why_36 : decode cX8_why 36 = .ok (.lload 4, 2) := by decide +kernel
theorem dX8_why_38 : decode cX8_why 38 = .ok (.ldc2_w 143, 3) := by decide +kernel
theorem dX8_why_41 : decode cX8_why 41 = .ok (.lcmp, 1) := by decide +kernel
theorem dX8_why_42 : decode cX8_why 42 = .ok (.ifCond .eq 27, 3) := by decide +kernel
theorem dX8_why_45 : decode cX8_why 45 = .ok (.aload_n 0, 1) := by decide +kernel
theorem dX8_why_46 : decode cX8_why 46 = .ok (.getfield 12, 3) := by decide +kernel
theorem dX8_why_49 : decode cX8_why 49 = .ok (.iload_n 1, 1) := by decide +kernel
theorem dX8_why_50 : decode cX8_why 50 = .ok (.lload 4, 2) := by decide +kernel
theorem dX8_why_52 : decode cX8_why 52 = .ok (.invokevirtual 149, 3) := by decide +kernel
theorem dX8_why_55 : decode cX8_why 55 = .ok (.ifCond .eq 14, 3) := by decide +kernel
theorem dX8_why_58 : decode cX8_why 58 = .ok (.iload_n 3, 1) := by decide +kernel
theorem dX8_why_59 : decode cX8_why 59 = .ok (.aload_n 0, 1) := by decide +kernel
theorem dX8_why_60 : decode cX8_why 60 = .ok (.getfield 12, 3) := by decide +kernel
theorem dX8_why_63 : decode cX8_why 63 = .ok (.getfield 153, 3) := by decide +kernel
theorem dX8_why_66 : decode cX8_why 66 = .ok (.if_icmp .lt 5, 3) := by decide +kernel
theorem dX8_why_69 : decode cX8_why 69 = .ok (.iconst (-1), 1) := by decide +kernel
theorem dX8_why_70 : decode cX8_why 70 = .ok (.ireturn, 1) := by decide +kernel
theorem dX8_why_71 : decode cX8_why 71 = .ok (.aload_n 0, 1) := by decide +kernel
theorem dX8_why_72 : decode cX8_why 72 = .ok (.getfield 12, 3) := by decide +kernel
theorem dX8_why_75 : decode cX8_why 75 = .ok (.getfield 156, 3) := by decide +kernel
theorem dX8_why_78 : decode cX8_why 78 = .ok (.iload_n 3, 1) := by decide +kernel
theorem dX8_why_79 : decode cX8_why 79 = .ok (.iaload, 1) := by decide +kernel
theorem dX8_why_80 : decode cX8_why 80 = .ok (.ireturn, 1) := by decide +kernel
theorem dX8_constraint_0 : decode cX8_constraint 0 = .ok (.iload_n 1, 1) := by decide +kernel
theorem dX8_constraint_1 : decode cX8_constraint 1 = .ok (.ifCond .lt 14, 3) := by decide +kernel
theorem dX8_constraint_4 : decode cX8_constraint 4 = .ok (.iload_n 1, 1) := by decide +kernel
theorem dX8_constraint_5 : decode cX8_constraint 5 = .ok (.aload_n 0, 1) := by decide +kernel
theorem dX8_constraint_6 : decode cX8_constraint 6 = .ok (.getfield 12, 3) := by decide +kernel
theorem dX8_constraint_9 : decode cX8_constraint 9 = .ok (.getfield 93, 3) := by decide +kernel
theorem dX8_constraint_12 : decode cX8_constraint 12 = .ok (.if_icmp .lt 13, 3) := by decide +kernel
theorem dX8_constraint_15 : decode cX8_constraint 15 = .ok (.new 130, 3) := by decide +kernel
theorem dX8_constraint_18 : decode cX8_constraint 18 = .ok (.dup, 1) := by decide +kernel
theorem dX8_constraint_19 : decode cX8_constraint 19 = .ok (.ldc 159, 2) := by decide +kernel
theorem dX8_constraint_21 : decode cX8_constraint 21 = .ok (.invokespecial 134, 3) := by decide +kernel
theorem dX8_constraint_24 : decode cX8_constraint 24 = .ok (.athrow, 1) := by decide +kernel
theorem dX8_constraint_25 : decode cX8_constraint 25 = .ok (.iload_n 2, 1) := by decide +kernel
theorem dX8_constraint_26 : decode cX8_constraint 26 = .ok (.tableswitch 116 0 4 #[34, 44, 54, 64, 110], 34) := by decide +kernel
theorem dX8_constraint_60 : decode cX8_constraint 60 = .ok (.aload_n 0, 1) := by decide +kernel
theorem dX8_constraint_61 : decode cX8_constraint 61 = .ok (.getfield 12, 3) := by decide +kernel
theorem dX8_constraint_64 : decode cX8_constraint 64 = .ok (.getfield 161, 3) := by decide +kernel
theorem dX8_constraint_67 : decode cX8_constraint 67 = .ok (.iload_n 1, 1) := by decide +kernel
theorem dX8_constraint_68 : decode cX8_constraint 68 = .ok (.iaload, 1) := by decide +kernel
theorem dX8_constraint_69 : decode cX8_constraint 69 = .ok (.ireturn, 1) := by decide +kernel
theorem dX8_constraint_70 : decode cX8_constraint 70 = .ok (.aload_n 0, 1) := by decide +kernel
theorem dX8_constraint_71 : decode cX8_constraint 71 = .ok (.getfield 12, 3) := by decide +kernel
theorem dX8_constraint_74 : decode cX8_constraint 74 = .ok (.getfield 164, 3) := by decide +kernel
theorem dX8_constraint_77 : decode cX8_constraint 77 = .ok (.iload_n 1, 1) := by decide +kernel
theorem dX8_constraint_78 : decode cX8_constraint 78 = .ok (.iaload, 1) := by decide +kernel
theorem dX8_constraint_79 : decode cX8_constraint 79 = .ok (.ireturn, 1) := by decide +kernel
theorem dX8_constraint_80 : decode cX8_constraint 80 = .ok (.aload_n 0, 1) := by decide +kernel
theorem dX8_constraint_81 : decode cX8_constraint 81 = .ok (.getfield 12, 3) := by decide +kernel
theorem dX8_constraint_84 : decode cX8_constraint 84 = .ok (.getfield 167, 3) := by decide +kernel
theorem dX8_constraint_87 : decode cX8_constraint 87 = .ok (.iload_n 1, 1) := by decide +kernel
theorem dX8_constraint_88 : decode cX8_constraint 88 = .ok (.iaload, 1) := by decide +kernel
theorem dX8_constraint_89 : decode cX8_constraint 89 = .ok (.ireturn, 1) := by decide +kernel
theorem dX8_constraint_90 : decode cX8_constraint 90 = .ok (.aload_n 0, 1) := by decide +kernel
theorem dX8_constraint_91 : decode cX8_constraint 91 = .ok (.getfield 12, 3) := by decide +kernel
theorem dX8_constraint_94 : decode cX8_constraint 94 = .ok (.aload_n 0, 1) := by decide +kernel
theorem dX8_constraint_95 : decode cX8_constraint 95 = .ok (.getfield 12, 3) := by decide +kernel
theorem dX8_constraint_98 : decode cX8_constraint 98 = .ok (.getfield 161, 3) := by decide +kernel
theorem dX8_constraint_101 : decode cX8_constraint 101 = .ok (.iload_n 1, 1) := by decide +kernel
theorem dX8_constraint_102 : decode cX8_constraint 102 = .ok (.iaload, 1) := by decide +kernel
theorem dX8_constraint_103 : decode cX8_constraint 103 = .ok (.aload_n 0, 1) := by decide +kernel
theorem dX8_constraint_104 : decode cX8_constraint 104 = .ok (.getfield 12, 3) := by decide +kernel
theorem dX8_constraint_107 : decode cX8_constraint 107 = .ok (.getfield 164, 3) := by decide +kernel
theorem dX8_constraint_110 : decode cX8_constraint 110 = .ok (.iload_n 1, 1) := by decide +kernel
theorem dX8_constraint_111 : decode cX8_constraint 111 = .ok (.iaload, 1) := by decide +kernel
theorem dX8_constraint_112 : decode cX8_constraint 112 = .ok (.iload_n 1, 1) := by decide +kernel
theorem dX8_constraint_113 : decode cX8_constraint 113 = .ok (.invokevirtual 139, 3) := by decide +kernel
theorem dX8_constraint_116 : decode cX8_constraint 116 = .ok (.aload_n 0, 1) := by decide +kernel
theorem dX8_constraint_117 : decode cX8_constraint 117 = .ok (.getfield 12, 3) := by decide +kernel
theorem dX8_constraint_120 : decode cX8_constraint 120 = .ok (.getfield 167, 3) := by decide +kernel
theorem dX8_constraint_123 : decode cX8_constraint 123 = .ok (.iload_n 1, 1) := by decide +kernel
theorem dX8_constraint_124 : decode cX8_constraint 124 = .ok (.iaload, 1) := by decide +kernel
theorem dX8_constraint_125 : decode cX8_constraint 125 = .ok (.i2l, 1) := by decide +kernel
theorem dX8_constraint_126 : decode cX8_constraint 126 = .ok (.lcmp, 1) := by decide +kernel
theorem dX8_constraint_127 : decode cX8_constraint 127 = .ok (.ifCond .gt 7, 3) := by decide +kernel
theorem dX8_constraint_130 : decode cX8_constraint 130 = .ok (.iconst 1, 1) := by decide +kernel
theorem dX8_constraint_131 : decode cX8_constraint 131 = .ok (.goto 4, 3) := by decide +kernel
theorem dX8_constraint_134 : decode cX8_constraint 134 = .ok (.iconst 0, 1) := by decide +kernel
theorem dX8_constraint_135 : decode cX8_constraint 135 = .ok (.ireturn, 1) := by decide +kernel
theorem dX8_constraint_136 : decode cX8_constraint 136 = .ok (.aload_n 0, 1) := by decide +kernel
theorem dX8_constraint_137 : decode cX8_constraint 137 = .ok (.iload_n 1, 1) := by decide +kernel
theorem dX8_constraint_138 : decode cX8_constraint 138 = .ok (.invokevirtual 170, 3) := by decide +kernel
theorem dX8_constraint_141 : decode cX8_constraint 141 = .ok (.ireturn, 1) := by decide +kernel
theorem dX8_constraint_142 : decode cX8_constraint 142 = .ok (.new 86, 3) := by decide +kernel
theorem dX8_constraint_145 : decode cX8_constraint 145 = .ok (.dup, 1) := by decide +kernel
theorem dX8_constraint_146 : decode cX8_constraint 146 = .ok (.ldc 174, 2) := by decide +kernel
theorem dX8_constraint_148 : decode cX8_constraint 148 = .ok (.invokespecial 90, 3) := by decide +kernel
theorem dX8_constraint_151 : decode cX8_constraint 151 = .ok (.athrow, 1) := by decide +kernel
theorem dX8_feed_0 : decode cX8_feed 0 = .ok (.iload_n 3, 1) := by decide +kernel
theorem dX8_feed_1 : decode cX8_feed 1 = .ok (.iconst 1, 1) := by decide +kernel
theorem dX8_feed_2 : decode cX8_feed 2 = .ok (.if_icmp .lt 9, 3) := by decide +kernel
theorem dX8_feed_5 : decode cX8_feed 5 = .ok (.iload_n 3, 1) := by decide +kernel
theorem dX8_feed_6 : decode cX8_feed 6 = .ok (.bipush 8, 2) := by decide +kernel
theorem dX8_feed_8 : decode cX8_feed 8 = .ok (.if_icmp .le 13, 3) := by decide +kernel
theorem dX8_feed_11 : decode cX8_feed 11 = .ok (.new 86, 3) := by decide +kernel
theorem dX8_feed_14 : decode cX8_feed 14 = .ok (.dup, 1) := by decide +kernel
theorem dX8_feed_15 : decode cX8_feed 15 = .ok (.ldc 176, 2) := by decide +kernel
theorem dX8_feed_17 : decode cX8_feed 17 = .ok (.invokespecial 90, 3) := by decide +kernel
theorem dX8_feed_20 : decode cX8_feed 20 = .ok (.athrow, 1) := by decide +kernel
theorem dX8_feed_21 : decode cX8_feed 21 = .ok (.aload_n 0, 1) := by decide +kernel
theorem dX8_feed_22 : decode cX8_feed 22 = .ok (.getfield 30, 3) := by decide +kernel
theorem dX8_feed_25 : decode cX8_feed 25 = .ok (.getfield 178, 3) := by decide +kernel
theorem dX8_feed_28 : decode cX8_feed 28 = .ok (.iload_n 3, 1) := by decide +kernel
theorem dX8_feed_29 : decode cX8_feed 29 = .ok (.iadd, 1) := by decide +kernel
theorem dX8_feed_30 : decode cX8_feed 30 = .ok (.sipush 400, 3) := by decide +kernel
theorem dX8_feed_33 : decode cX8_feed 33 = .ok (.if_icmp .le 13, 3) := by decide +kernel
theorem dX8_feed_36 : decode cX8_feed 36 = .ok (.new 97, 3) := by decide +kernel
theorem dX8_feed_39 : decode cX8_feed 39 = .ok (.dup, 1) := by decide +kernel
theorem dX8_feed_40 : decode cX8_feed 40 = .ok (.ldc 181, 2) := by decide +kernel
theorem dX8_feed_42 : decode cX8_feed 42 = .ok (.invokespecial 101, 3) := by decide +kernel
theorem dX8_feed_45 : decode cX8_feed 45 = .ok (.athrow, 1) := by decide +kernel
theorem dX8_feed_46 : decode cX8_feed 46 = .ok (.iload_n 3, 1) := by decide +kernel
theorem dX8_feed_47 : decode cX8_feed 47 = .ok (.iconst 1, 1) := by decide +kernel
theorem dX8_feed_48 : decode cX8_feed 48 = .ok (.isub, 1) := by decide +kernel
theorem dX8_feed_49 : decode cX8_feed 49 = .ok (.istore 4, 2) := by decide +kernel
theorem dX8_feed_51 : decode cX8_feed 51 = .ok (.iload 4, 2) := by decide +kernel
theorem dX8_feed_53 : decode cX8_feed 53 = .ok (.ifCond .lt 29, 3) := by decide +kernel
theorem dX8_feed_56 : decode cX8_feed 56 = .ok (.aload_n 0, 1) := by decide +kernel
theorem dX8_feed_57 : decode cX8_feed 57 = .ok (.getfield 30, 3) := by decide +kernel
theorem dX8_feed_60 : decode cX8_feed 60 = .ok (.lload_n 1, 1) := by decide +kernel
theorem dX8_feed_61 : decode cX8_feed 61 = .ok (.bipush 8, 2) := by decide +kernel
theorem dX8_feed_63 : decode cX8_feed 63 = .ok (.iload 4, 2) := by decide +kernel
theorem dX8_feed_65 : decode cX8_feed 65 = .ok (.imul, 1) := by decide +kernel
theorem dX8_feed_66 : decode cX8_feed 66 = .ok (.lushr, 1) := by decide +kernel
theorem dX8_feed_67 : decode cX8_feed 67 = .ok (.l2i, 1) := by decide +kernel
theorem dX8_feed_68 : decode cX8_feed 68 = .ok (.sipush 255, 3) := by decide +kernel
theorem dX8_feed_71 : decode cX8_feed 71 = .ok (.iand, 1) := by decide +kernel
theorem dX8_feed_72 : decode cX8_feed 72 = .ok (.invokevirtual 183, 3) := by decide +kernel
theorem dX8_feed_75 : decode cX8_feed 75 = .ok (.pop, 1) := by decide +kernel
theorem dX8_feed_76 : decode cX8_feed 76 = .ok (.iinc 4 (-1), 3) := by decide +kernel
theorem dX8_feed_79 : decode cX8_feed 79 = .ok (.goto (-28), 3) := by decide +kernel
theorem dX8_feed_82 : decode cX8_feed 82 = .ok (.aload_n 0, 1) := by decide +kernel
theorem dX8_feed_83 : decode cX8_feed 83 = .ok (.getfield 30, 3) := by decide +kernel
theorem dX8_feed_86 : decode cX8_feed 86 = .ok (.getfield 178, 3) := by decide +kernel
theorem dX8_feed_89 : decode cX8_feed 89 = .ok (.ireturn, 1) := by decide +kernel
theorem dX8_read_0 : decode cX8_read 0 = .ok (.aload_n 0, 1) := by decide +kernel
theorem dX8_read_1 : decode cX8_read 1 = .ok (.aload_n 0, 1) := by decide +kernel
theorem dX8_read_2 : decode cX8_read 2 = .ok (.getfield 52, 3) := by decide +kernel
theorem dX8_read_5 : decode cX8_read 5 = .ok (.invokevirtual 186, 3) := by decide +kernel
theorem dX8_read_8 : decode cX8_read 8 = .ok (.putfield 190, 3) := by decide +kernel
theorem dX8_read_11 : decode cX8_read 11 = .ok (.aload_n 0, 1) := by decide +kernel
theorem dX8_read_12 : decode cX8_read 12 = .ok (.getfield 30, 3) := by decide +kernel
theorem dX8_read_15 : decode cX8_read 15 = .ok (.iconst 0, 1) := by decide +kernel
theorem dX8_read_16 : decode cX8_read 16 = .ok (.putfield 178, 3) := by decide +kernel
theorem dX8_read_19 : decode cX8_read 19 = .ok (.aload_n 0, 1) := by decide +kernel
theorem dX8_read_20 : decode cX8_read 20 = .ok (.getfield 190, 3) := by decide +kernel
theorem dX8_read_23 : decode cX8_read 23 = .ok (.ifCond .eq 16, 3) := by decide +kernel
theorem dX8_read_26 : decode cX8_read 26 = .ok (.iconst (-1), 1) := by decide +kernel
theorem dX8_read_27 : decode cX8_read 27 = .ok (.aload_n 0, 1) := by decide +kernel
theorem dX8_read_28 : decode cX8_read 28 = .ok (.getfield 52, 3) := by decide +kernel
theorem dX8_read_31 : decode cX8_read 31 = .ok (.getfield 193, 3) := by decide +kernel
theorem dX8_read_34 : decode cX8_read 34 = .ok (.getfield 197, 3) := by decide +kernel
theorem dX8_read_37 : decode cX8_read 37 = .ok (.isub, 1) := by decide +kernel
theorem dX8_read_38 : decode cX8_read 38 = .ok (.ireturn, 1) := by decide +kernel
theorem dX8_read_39 : decode cX8_read 39 = .ok (.aload_n 0, 1) := by decide +kernel
theorem dX8_read_40 : decode cX8_read 40 = .ok (.getfield 40, 3) := by decide +kernel
theorem dX8_read_43 : decode cX8_read 43 = .ok (.aload_n 0, 1) := by decide +kernel
theorem dX8_read_44 : decode cX8_read 44 = .ok (.getfield 44, 3) := by decide +kernel
theorem dX8_read_47 : decode cX8_read 47 = .ok (.invokevirtual 202, 3) := by decide +kernel
theorem dX8_read_50 : decode cX8_read 50 = .ok (.aload_n 0, 1) := by decide +kernel
theorem dX8_read_51 : decode cX8_read 51 = .ok (.iconst 1, 1) := by decide +kernel
theorem dX8_read_52 : decode cX8_read 52 = .ok (.putfield 206, 3) := by decide +kernel
theorem dX8_read_55 : decode cX8_read 55 = .ok (.aload_n 0, 1) := by decide +kernel
theorem dX8_read_56 : decode cX8_read 56 = .ok (.getfield 61, 3) := by decide +kernel
theorem dX8_read_59 : decode cX8_read 59 = .ok (.iconst 0, 1) := by decide +kernel
theorem dX8_read_60 : decode cX8_read 60 = .ok (.putfield 113, 3) := by decide +kernel
theorem dX8_read_63 : decode cX8_read 63 = .ok (.aload_n 0, 1) := by decide +kernel
theorem dX8_read_64 : decode cX8_read 64 = .ok (.getfield 40, 3) := by decide +kernel
theorem dX8_read_67 : decode cX8_read 67 = .ok (.getfield 209, 3) := by decide +kernel
theorem dX8_read_70 : decode cX8_read 70 = .ok (.ireturn, 1) := by decide +kernel
theorem dX8_fault_0 : decode cX8_fault 0 = .ok (.aload_n 0, 1) := by decide +kernel
theorem dX8_fault_1 : decode cX8_fault 1 = .ok (.getfield 190, 3) := by decide +kernel
theorem dX8_fault_4 : decode cX8_fault 4 = .ok (.ireturn, 1) := by decide +kernel
theorem dX8_atom_0 : decode cX8_atom 0 = .ok (.aload_n 0, 1) := by decide +kernel
theorem dX8_atom_1 : decode cX8_atom 1 = .ok (.iload_n 1, 1) := by decide +kernel
theorem dX8_atom_2 : decode cX8_atom 2 = .ok (.invokevirtual 212, 3) := by decide +kernel
theorem dX8_atom_5 : decode cX8_atom 5 = .ok (.iload_n 2, 1) := by decide +kernel
theorem dX8_atom_6 : decode cX8_atom 6 = .ok (.tableswitch 56 0 2 #[26, 36, 46], 26) := by decide +kernel
theorem dX8_atom_32 : decode cX8_atom 32 = .ok (.aload_n 0, 1) := by decide +kernel
theorem dX8_atom_33 : decode cX8_atom 33 = .ok (.getfield 40, 3) := by decide +kernel
theorem dX8_atom_36 : decode cX8_atom 36 = .ok (.getfield 215, 3) := by decide +kernel
theorem dX8_atom_39 : decode cX8_atom 39 = .ok (.iload_n 1, 1) := by decide +kernel
theorem dX8_atom_40 : decode cX8_atom 40 = .ok (.iaload, 1) := by decide +kernel
theorem dX8_atom_41 : decode cX8_atom 41 = .ok (.ireturn, 1) := by decide +kernel
theorem dX8_atom_42 : decode cX8_atom 42 = .ok (.aload_n 0, 1) := by decide +kernel
theorem dX8_atom_43 : decode cX8_atom 43 = .ok (.getfield 40, 3) := by decide +kernel
theorem dX8_atom_46 : decode cX8_atom 46 = .ok (.getfield 218, 3) := by decide +kernel
theorem dX8_atom_49 : decode cX8_atom 49 = .ok (.iload_n 1, 1) := by decide +kernel
theorem dX8_atom_50 : decode cX8_atom 50 = .ok (.iaload, 1) := by decide +kernel
theorem dX8_atom_51 : decode cX8_atom 51 = .ok (.ireturn, 1) := by decide +kernel
theorem dX8_atom_52 : decode cX8_atom 52 = .ok (.aload_n 0, 1) := by decide +kernel
theorem dX8_atom_53 : decode cX8_atom 53 = .ok (.getfield 40, 3) := by decide +kernel
theorem dX8_atom_56 : decode cX8_atom 56 = .ok (.getfield 221, 3) := by decide +kernel
theorem dX8_atom_59 : decode cX8_atom 59 = .ok (.iload_n 1, 1) := by decide +kernel
theorem dX8_atom_60 : decode cX8_atom 60 = .ok (.iaload, 1) := by decide +kernel
theorem dX8_atom_61 : decode cX8_atom 61 = .ok (.ireturn, 1) := by decide +kernel
theorem dX8_atom_62 : decode cX8_atom 62 = .ok (.new 86, 3) := by decide +kernel
theorem dX8_atom_65 : decode cX8_atom 65 = .ok (.dup, 1) := by decide +kernel
theorem dX8_atom_66 : decode cX8_atom 66 = .ok (.ldc 222, 2) := by decide +kernel
theorem dX8_atom_68 : decode cX8_atom 68 = .ok (.invokespecial 90, 3) := by decide +kernel
theorem dX8_atom_71 : decode cX8_atom 71 = .ok (.athrow, 1) := by decide +kernel
theorem dX8_ways_0 : decode cX8_ways 0 = .ok (.aload_n 0, 1) := by decide +kernel
theorem dX8_ways_1 : decode cX8_ways 1 = .ok (.getfield 206, 3) := by decide +kernel
theorem dX8_ways_4 : decode cX8_ways 4 = .ok (.ifCond .ne 5, 3) := by decide +kernel
theorem dX8_ways_7 : decode cX8_ways 7 = .ok (.iconst (-1), 1) := by decide +kernel
theorem dX8_ways_8 : decode cX8_ways 8 = .ok (.ireturn, 1) := by decide +kernel
theorem dX8_ways_9 : decode cX8_ways 9 = .ok (.aload_n 0, 1) := by decide +kernel
theorem dX8_ways_10 : decode cX8_ways 10 = .ok (.getfield 61, 3) := by decide +kernel
theorem dX8_ways_13 : decode cX8_ways 13 = .ok (.invokevirtual 224, 3) := by decide +kernel
theorem dX8_ways_16 : decode cX8_ways 16 = .ok (.aload_n 0, 1) := by decide +kernel
theorem dX8_ways_17 : decode cX8_ways 17 = .ok (.getfield 61, 3) := by decide +kernel
theorem dX8_ways_20 : decode cX8_ways 20 = .ok (.getfield 227, 3) := by decide +kernel
theorem dX8_ways_23 : decode cX8_ways 23 = .ok (.ireturn, 1) := by decide +kernel
theorem dX8_way_0 : decode cX8_way 0 = .ok (.aload_n 0, 1) := by decide +kernel
theorem dX8_way_1 : decode cX8_way 1 = .ok (.getfield 206, 3) := by decide +kernel
theorem dX8_way_4 : decode cX8_way 4 = .ok (.ifCond .ne 5, 3) := by decide +kernel
theorem dX8_way_7 : decode cX8_way 7 = .ok (.iconst (-1), 1) := by decide +kernel
theorem dX8_way_8 : decode cX8_way 8 = .ok (.ireturn, 1) := by decide +kernel
theorem dX8_way_9 : decode cX8_way 9 = .ok (.aload_n 0, 1) := by decide +kernel
theorem dX8_way_10 : decode cX8_way 10 = .ok (.getfield 61, 3) := by decide +kernel
theorem dX8_way_13 : decode cX8_way 13 = .ok (.invokevirtual 224, 3) := by decide +kernel
theorem dX8_way_16 : decode cX8_way 16 = .ok (.aload_n 0, 1) := by decide +kernel
theorem dX8_way_17 : decode cX8_way 17 = .ok (.getfield 40, 3) := by decide +kernel
theorem dX8_way_20 : decode cX8_way 20 = .ok (.invokevirtual 228, 3) := by decide +kernel
theorem dX8_way_23 : decode cX8_way 23 = .ok (.istore_n 2, 1) := by decide +kernel
theorem dX8_way_24 : decode cX8_way 24 = .ok (.iload_n 1, 1) := by decide +kernel
theorem dX8_way_25 : decode cX8_way 25 = .ok (.iconst 0, 1) := by decide +kernel
theorem dX8_way_26 : decode cX8_way 26 = .ok (.invokestatic 231, 3) := by decide +kernel
theorem dX8_way_29 : decode cX8_way 29 = .ok (.istore_n 3, 1) := by decide +kernel
theorem dX8_way_30 : decode cX8_way 30 = .ok (.iload_n 3, 1) := by decide +kernel
theorem dX8_way_31 : decode cX8_way 31 = .ok (.iload_n 2, 1) := by decide +kernel
theorem dX8_way_32 : decode cX8_way 32 = .ok (.if_icmp .ge 23, 3) := by decide +kernel
theorem dX8_way_35 : decode cX8_way 35 = .ok (.aload_n 0, 1) := by decide +kernel
theorem dX8_way_36 : decode cX8_way 36 = .ok (.getfield 61, 3) := by decide +kernel
theorem dX8_way_39 : decode cX8_way 39 = .ok (.getfield 237, 3) := by decide +kernel
theorem dX8_way_42 : decode cX8_way 42 = .ok (.iload_n 3, 1) := by decide +kernel
theorem dX8_way_43 : decode cX8_way 43 = .ok (.baload, 1) := by decide +kernel
theorem dX8_way_44 : decode cX8_way 44 = .ok (.ifCond .eq 5, 3) := by decide +kernel
theorem dX8_way_47 : decode cX8_way 47 = .ok (.iload_n 3, 1) := by decide +kernel
theorem dX8_way_48 : decode cX8_way 48 = .ok (.ireturn, 1) := by decide +kernel
theorem dX8_way_49 : decode cX8_way 49 = .ok (.iinc 3 1, 3) := by decide +kernel
theorem dX8_way_52 : decode cX8_way 52 = .ok (.goto (-22), 3) := by decide +kernel
theorem dX8_way_55 : decode cX8_way 55 = .ok (.iconst (-1), 1) := by decide +kernel
theorem dX8_way_56 : decode cX8_way 56 = .ok (.ireturn, 1) := by decide +kernel
theorem dX8_valueIn_0 : decode cX8_valueIn 0 = .ok (.aload_n 0, 1) := by decide +kernel
theorem dX8_valueIn_1 : decode cX8_valueIn 1 = .ok (.iload_n 2, 1) := by decide +kernel
theorem dX8_valueIn_2 : decode cX8_valueIn 2 = .ok (.invokevirtual 81, 3) := by decide +kernel
theorem dX8_valueIn_5 : decode cX8_valueIn 5 = .ok (.aload_n 0, 1) := by decide +kernel
theorem dX8_valueIn_6 : decode cX8_valueIn 6 = .ok (.getfield 206, 3) := by decide +kernel
theorem dX8_valueIn_9 : decode cX8_valueIn 9 = .ok (.ifCond .eq 18, 3) := by decide +kernel
theorem dX8_valueIn_12 : decode cX8_valueIn 12 = .ok (.iload_n 1, 1) := by decide +kernel
theorem dX8_valueIn_13 : decode cX8_valueIn 13 = .ok (.ifCond .lt 14, 3) := by decide +kernel
theorem dX8_valueIn_16 : decode cX8_valueIn 16 = .ok (.iload_n 1, 1) := by decide +kernel
theorem dX8_valueIn_17 : decode cX8_valueIn 17 = .ok (.aload_n 0, 1) := by decide +kernel
theorem dX8_valueIn_18 : decode cX8_valueIn 18 = .ok (.getfield 40, 3) := by decide +kernel
theorem dX8_valueIn_21 : decode cX8_valueIn 21 = .ok (.invokevirtual 228, 3) := by decide +kernel
theorem dX8_valueIn_24 : decode cX8_valueIn 24 = .ok (.if_icmp .lt 7, 3) := by decide +kernel
theorem dX8_valueIn_27 : decode cX8_valueIn 27 = .ok (.ldc2_w 145, 3) := by decide +kernel
theorem dX8_valueIn_30 : decode cX8_valueIn 30 = .ok (.lreturn, 1) := by decide +kernel
theorem dX8_valueIn_31 : decode cX8_valueIn 31 = .ok (.aload_n 0, 1) := by decide +kernel
theorem dX8_valueIn_32 : decode cX8_valueIn 32 = .ok (.getfield 61, 3) := by decide +kernel
theorem dX8_valueIn_35 : decode cX8_valueIn 35 = .ok (.invokevirtual 224, 3) := by decide +kernel
theorem dX8_valueIn_38 : decode cX8_valueIn 38 = .ok (.aload_n 0, 1) := by decide +kernel
theorem dX8_valueIn_39 : decode cX8_valueIn 39 = .ok (.getfield 61, 3) := by decide +kernel
theorem dX8_valueIn_42 : decode cX8_valueIn 42 = .ok (.getfield 237, 3) := by decide +kernel
theorem dX8_valueIn_45 : decode cX8_valueIn 45 = .ok (.iload_n 1, 1) := by decide +kernel
theorem dX8_valueIn_46 : decode cX8_valueIn 46 = .ok (.baload, 1) := by decide +kernel
theorem dX8_valueIn_47 : decode cX8_valueIn 47 = .ok (.ifCond .ne 7, 3) := by decide +kernel
theorem dX8_valueIn_50 : decode cX8_valueIn 50 = .ok (.ldc2_w 145, 3) := by decide +kernel
theorem dX8_valueIn_53 : decode cX8_valueIn 53 = .ok (.lreturn, 1) := by decide +kernel
theorem dX8_valueIn_54 : decode cX8_valueIn 54 = .ok (.aload_n 0, 1) := by decide +kernel
theorem dX8_valueIn_55 : decode cX8_valueIn 55 = .ok (.getfield 12, 3) := by decide +kernel
theorem dX8_valueIn_58 : decode cX8_valueIn 58 = .ok (.getfield 93, 3) := by decide +kernel
theorem dX8_valueIn_61 : decode cX8_valueIn 61 = .ok (.istore_n 3, 1) := by decide +kernel
theorem dX8_valueIn_62 : decode cX8_valueIn 62 = .ok (.aload_n 0, 1) := by decide +kernel
theorem dX8_valueIn_63 : decode cX8_valueIn 63 = .ok (.getfield 40, 3) := by decide +kernel
theorem dX8_valueIn_66 : decode cX8_valueIn 66 = .ok (.iload_n 1, 1) := by decide +kernel
theorem dX8_valueIn_67 : decode cX8_valueIn 67 = .ok (.invokevirtual 241, 3) := by decide +kernel
theorem dX8_valueIn_70 : decode cX8_valueIn 70 = .ok (.iconst 0, 1) := by decide +kernel
theorem dX8_valueIn_71 : decode cX8_valueIn 71 = .ok (.istore 4, 2) := by decide +kernel
theorem dX8_valueIn_73 : decode cX8_valueIn 73 = .ok (.iload 4, 2) := by decide +kernel
theorem dX8_valueIn_75 : decode cX8_valueIn 75 = .ok (.aload_n 0, 1) := by decide +kernel
theorem dX8_valueIn_76 : decode cX8_valueIn 76 = .ok (.getfield 40, 3) := by decide +kernel
theorem dX8_valueIn_79 : decode cX8_valueIn 79 = .ok (.getfield 209, 3) := by decide +kernel
theorem dX8_valueIn_82 : decode cX8_valueIn 82 = .ok (.if_icmp .ge 43, 3) := by decide +kernel
theorem dX8_valueIn_85 : decode cX8_valueIn 85 = .ok (.aload_n 0, 1) := by decide +kernel
theorem dX8_valueIn_86 : decode cX8_valueIn 86 = .ok (.getfield 12, 3) := by decide +kernel
theorem dX8_valueIn_89 : decode cX8_valueIn 89 = .ok (.aload_n 0, 1) := by decide +kernel
theorem dX8_valueIn_90 : decode cX8_valueIn 90 = .ok (.getfield 40, 3) := by decide +kernel
theorem dX8_valueIn_93 : decode cX8_valueIn 93 = .ok (.iload 4, 2) := by decide +kernel
theorem dX8_valueIn_95 : decode cX8_valueIn 95 = .ok (.invokevirtual 244, 3) := by decide +kernel
theorem dX8_valueIn_98 : decode cX8_valueIn 98 = .ok (.aload_n 0, 1) := by decide +kernel
theorem dX8_valueIn_99 : decode cX8_valueIn 99 = .ok (.getfield 40, 3) := by decide +kernel
theorem dX8_valueIn_102 : decode cX8_valueIn 102 = .ok (.iload 4, 2) := by decide +kernel
theorem dX8_valueIn_104 : decode cX8_valueIn 104 = .ok (.invokevirtual 247, 3) := by decide +kernel
theorem dX8_valueIn_107 : decode cX8_valueIn 107 = .ok (.aload_n 0, 1) := by decide +kernel
theorem dX8_valueIn_108 : decode cX8_valueIn 108 = .ok (.getfield 40, 3) := by decide +kernel
theorem dX8_valueIn_111 : decode cX8_valueIn 111 = .ok (.iload 4, 2) := by decide +kernel
theorem dX8_valueIn_113 : decode cX8_valueIn 113 = .ok (.invokevirtual 250, 3) := by decide +kernel
theorem dX8_valueIn_116 : decode cX8_valueIn 116 = .ok (.invokevirtual 109, 3) := by decide +kernel
theorem dX8_valueIn_119 : decode cX8_valueIn 119 = .ok (.iinc 4 1, 3) := by decide +kernel
theorem dX8_valueIn_122 : decode cX8_valueIn 122 = .ok (.goto (-49), 3) := by decide +kernel
theorem dX8_valueIn_125 : decode cX8_valueIn 125 = .ok (.aload_n 0, 1) := by decide +kernel
theorem dX8_valueIn_126 : decode cX8_valueIn 126 = .ok (.getfield 12, 3) := by decide +kernel
theorem dX8_valueIn_129 : decode cX8_valueIn 129 = .ok (.iload_n 2, 1) := by decide +kernel
theorem dX8_valueIn_130 : decode cX8_valueIn 130 = .ok (.invokevirtual 135, 3) := by decide +kernel
theorem dX8_valueIn_133 : decode cX8_valueIn 133 = .ok (.lstore 4, 2) := by decide +kernel
theorem dX8_valueIn_135 : decode cX8_valueIn 135 = .ok (.aload_n 0, 1) := by decide +kernel
theorem dX8_valueIn_136 : decode cX8_valueIn 136 = .ok (.getfield 12, 3) := by decide +kernel
theorem dX8_valueIn_139 : decode cX8_valueIn 139 = .ok (.iload_n 3, 1) := by decide +kernel
theorem dX8_valueIn_140 : decode cX8_valueIn 140 = .ok (.invokevirtual 124, 3) := by decide +kernel
theorem dX8_valueIn_143 : decode cX8_valueIn 143 = .ok (.lload 4, 2) := by decide +kernel
theorem dX8_valueIn_145 : decode cX8_valueIn 145 = .ok (.lreturn, 1) := by decide +kernel
theorem dX8_must_0 : decode cX8_must 0 = .ok (.aload_n 0, 1) := by decide +kernel
theorem dX8_must_1 : decode cX8_must 1 = .ok (.iload_n 1, 1) := by decide +kernel
theorem dX8_must_2 : decode cX8_must 2 = .ok (.invokevirtual 212, 3) := by decide +kernel
theorem dX8_must_5 : decode cX8_must 5 = .ok (.aload_n 0, 1) := by decide +kernel
theorem dX8_must_6 : decode cX8_must 6 = .ok (.getfield 61, 3) := by decide +kernel
theorem dX8_must_9 : decode cX8_must 9 = .ok (.invokevirtual 224, 3) := by decide +kernel
theorem dX8_must_12 : decode cX8_must 12 = .ok (.aload_n 0, 1) := by decide +kernel
theorem dX8_must_13 : decode cX8_must 13 = .ok (.getfield 61, 3) := by decide +kernel
theorem dX8_must_16 : decode cX8_must 16 = .ok (.iload_n 1, 1) := by decide +kernel
theorem dX8_must_17 : decode cX8_must 17 = .ok (.invokevirtual 253, 3) := by decide +kernel
theorem dX8_must_20 : decode cX8_must 20 = .ok (.istore_n 2, 1) := by decide +kernel
theorem dX8_must_21 : decode cX8_must 21 = .ok (.aload_n 0, 1) := by decide +kernel
theorem dX8_must_22 : decode cX8_must 22 = .ok (.getfield 61, 3) := by decide +kernel
theorem dX8_must_25 : decode cX8_must 25 = .ok (.getfield 227, 3) := by decide +kernel
theorem dX8_must_28 : decode cX8_must 28 = .ok (.ifCond .eq 18, 3) := by decide +kernel
theorem dX8_must_31 : decode cX8_must 31 = .ok (.iload_n 2, 1) := by decide +kernel
theorem dX8_must_32 : decode cX8_must 32 = .ok (.ifCond .le 16, 3) := by decide +kernel
theorem dX8_must_35 : decode cX8_must 35 = .ok (.iload_n 2, 1) := by decide +kernel
theorem dX8_must_36 : decode cX8_must 36 = .ok (.aload_n 0, 1) := by decide +kernel
theorem dX8_must_37 : decode cX8_must 37 = .ok (.getfield 61, 3) := by decide +kernel
theorem dX8_must_40 : decode cX8_must 40 = .ok (.getfield 227, 3) := by decide +kernel
theorem dX8_must_43 : decode cX8_must 43 = .ok (.if_icmp .ge 5, 3) := by decide +kernel
theorem dX8_must_46 : decode cX8_must 46 = .ok (.iconst (-1), 1) := by decide +kernel
theorem dX8_must_47 : decode cX8_must 47 = .ok (.ireturn, 1) := by decide +kernel
theorem dX8_must_48 : decode cX8_must 48 = .ok (.iload_n 2, 1) := by decide +kernel
theorem dX8_must_49 : decode cX8_must 49 = .ok (.ifCond .le 7, 3) := by decide +kernel
theorem dX8_must_52 : decode cX8_must 52 = .ok (.iconst 1, 1) := by decide +kernel
theorem dX8_must_53 : decode cX8_must 53 = .ok (.goto 4, 3) := by decide +kernel
theorem dX8_must_56 : decode cX8_must 56 = .ok (.iconst 0, 1) := by decide +kernel
theorem dX8_must_57 : decode cX8_must 57 = .ok (.ireturn, 1) := by decide +kernel
theorem dX8_prove_0 : decode cX8_prove 0 = .ok (.aload_n 0, 1) := by decide +kernel
theorem dX8_prove_1 : decode cX8_prove 1 = .ok (.getfield 34, 3) := by decide +kernel
theorem dX8_prove_4 : decode cX8_prove 4 = .ok (.iconst 0, 1) := by decide +kernel
theorem dX8_prove_5 : decode cX8_prove 5 = .ok (.putfield 178, 3) := by decide +kernel
theorem dX8_prove_8 : decode cX8_prove 8 = .ok (.aload_n 0, 1) := by decide +kernel
theorem dX8_prove_9 : decode cX8_prove 9 = .ok (.getfield 206, 3) := by decide +kernel
theorem dX8_prove_12 : decode cX8_prove 12 = .ok (.ifCond .ne 5, 3) := by decide +kernel
theorem dX8_prove_15 : decode cX8_prove 15 = .ok (.iconst (-1), 1) := by decide +kernel
theorem dX8_prove_16 : decode cX8_prove 16 = .ok (.ireturn, 1) := by decide +kernel
theorem dX8_prove_17 : decode cX8_prove 17 = .ok (.aload_n 0, 1) := by decide +kernel
theorem dX8_prove_18 : decode cX8_prove 18 = .ok (.getfield 61, 3) := by decide +kernel
theorem dX8_prove_21 : decode cX8_prove 21 = .ok (.invokevirtual 224, 3) := by decide +kernel
theorem dX8_prove_24 : decode cX8_prove 24 = .ok (.aload_n 0, 1) := by decide +kernel
theorem dX8_prove_25 : decode cX8_prove 25 = .ok (.getfield 61, 3) := by decide +kernel
theorem dX8_prove_28 : decode cX8_prove 28 = .ok (.getfield 227, 3) := by decide +kernel
theorem dX8_prove_31 : decode cX8_prove 31 = .ok (.ifCond .gt 13, 3) := by decide +kernel
theorem dX8_prove_34 : decode cX8_prove 34 = .ok (.aload_n 0, 1) := by decide +kernel
theorem dX8_prove_35 : decode cX8_prove 35 = .ok (.getfield 70, 3) := by decide +kernel
theorem dX8_prove_38 : decode cX8_prove 38 = .ok (.invokevirtual 256, 3) := by decide +kernel
theorem dX8_prove_41 : decode cX8_prove 41 = .ok (.ifCond .ne 5, 3) := by decide +kernel
theorem dX8_prove_44 : decode cX8_prove 44 = .ok (.iconst (-1), 1) := by decide +kernel
theorem dX8_prove_45 : decode cX8_prove 45 = .ok (.ireturn, 1) := by decide +kernel
theorem dX8_prove_46 : decode cX8_prove 46 = .ok (.aload_n 0, 1) := by decide +kernel
theorem dX8_prove_47 : decode cX8_prove 47 = .ok (.getfield 34, 3) := by decide +kernel
theorem dX8_prove_50 : decode cX8_prove 50 = .ok (.getfield 178, 3) := by decide +kernel
theorem dX8_prove_53 : decode cX8_prove 53 = .ok (.ireturn, 1) := by decide +kernel
theorem dX8_written_0 : decode cX8_written 0 = .ok (.iload_n 1, 1) := by decide +kernel
theorem dX8_written_1 : decode cX8_written 1 = .ok (.ifCond .lt 14, 3) := by decide +kernel
theorem dX8_written_4 : decode cX8_written 4 = .ok (.iload_n 1, 1) := by decide +kernel
theorem dX8_written_5 : decode cX8_written 5 = .ok (.aload_n 0, 1) := by decide +kernel
theorem dX8_written_6 : decode cX8_written 6 = .ok (.getfield 34, 3) := by decide +kernel
theorem dX8_written_9 : decode cX8_written 9 = .ok (.getfield 178, 3) := by decide +kernel
theorem dX8_written_12 : decode cX8_written 12 = .ok (.if_icmp .lt 14, 3) := by decide +kernel
theorem dX8_written_15 : decode cX8_written 15 = .ok (.new 130, 3) := by decide +kernel
theorem dX8_written_18 : decode cX8_written 18 = .ok (.dup, 1) := by decide +kernel
theorem dX8_written_19 : decode cX8_written 19 = .ok (.ldc_w 260, 3) := by decide +kernel
theorem dX8_written_22 : decode cX8_written 22 = .ok (.invokespecial 134, 3) := by decide +kernel
theorem dX8_written_25 : decode cX8_written 25 = .ok (.athrow, 1) := by decide +kernel
theorem dX8_written_26 : decode cX8_written 26 = .ok (.aload_n 0, 1) := by decide +kernel
theorem dX8_written_27 : decode cX8_written 27 = .ok (.getfield 34, 3) := by decide +kernel
theorem dX8_written_30 : decode cX8_written 30 = .ok (.iload_n 1, 1) := by decide +kernel
theorem dX8_written_31 : decode cX8_written 31 = .ok (.invokevirtual 262, 3) := by decide +kernel
theorem dX8_written_34 : decode cX8_written 34 = .ok (.ireturn, 1) := by decide +kernel
theorem dX8_check_0 : decode cX8_check 0 = .ok (.aload_n 0, 1) := by decide +kernel
theorem dX8_check_1 : decode cX8_check 1 = .ok (.getfield 206, 3) := by decide +kernel
theorem dX8_check_4 : decode cX8_check 4 = .ok (.ifCond .ne 7, 3) := by decide +kernel
theorem dX8_check_7 : decode cX8_check 7 = .ok (.sipush (-20000), 3) := by decide +kernel
theorem dX8_check_10 : decode cX8_check 10 = .ok (.ireturn, 1) := by decide +kernel
theorem dX8_check_11 : decode cX8_check 11 = .ok (.aload_n 0, 1) := by decide +kernel
theorem dX8_check_12 : decode cX8_check 12 = .ok (.getfield 77, 3) := by decide +kernel
theorem dX8_check_15 : decode cX8_check 15 = .ok (.iload_n 1, 1) := by decide +kernel
theorem dX8_check_16 : decode cX8_check 16 = .ok (.ifCond .eq 10, 3) := by decide +kernel
theorem dX8_check_19 : decode cX8_check 19 = .ok (.aload_n 0, 1) := by decide +kernel
theorem dX8_check_20 : decode cX8_check 20 = .ok (.getfield 30, 3) := by decide +kernel
theorem dX8_check_23 : decode cX8_check 23 = .ok (.goto 7, 3) := by decide +kernel
theorem dX8_check_26 : decode cX8_check 26 = .ok (.aload_n 0, 1) := by decide +kernel
theorem dX8_check_27 : decode cX8_check 27 = .ok (.getfield 34, 3) := by decide +kernel
theorem dX8_check_30 : decode cX8_check 30 = .ok (.invokevirtual 265, 3) := by decide +kernel
theorem dX8_check_33 : decode cX8_check 33 = .ok (.istore_n 2, 1) := by decide +kernel
theorem dX8_check_34 : decode cX8_check 34 = .ok (.iload_n 1, 1) := by decide +kernel
theorem dX8_check_35 : decode cX8_check 35 = .ok (.ifCond .eq 11, 3) := by decide +kernel
theorem dX8_check_38 : decode cX8_check 38 = .ok (.aload_n 0, 1) := by decide +kernel
theorem dX8_check_39 : decode cX8_check 39 = .ok (.getfield 30, 3) := by decide +kernel
theorem dX8_check_42 : decode cX8_check 42 = .ok (.iconst 0, 1) := by decide +kernel
theorem dX8_check_43 : decode cX8_check 43 = .ok (.putfield 178, 3) := by decide +kernel
theorem dX8_check_46 : decode cX8_check 46 = .ok (.aload_n 0, 1) := by decide +kernel
theorem dX8_check_47 : decode cX8_check 47 = .ok (.iload_n 2, 1) := by decide +kernel
theorem dX8_check_48 : decode cX8_check 48 = .ok (.iconst (-1), 1) := by decide +kernel
theorem dX8_check_49 : decode cX8_check 49 = .ok (.if_icmp .ne 7, 3) := by decide +kernel
theorem dX8_check_52 : decode cX8_check 52 = .ok (.iconst 0, 1) := by decide +kernel
theorem dX8_check_53 : decode cX8_check 53 = .ok (.goto 4, 3) := by decide +kernel
theorem dX8_check_56 : decode cX8_check 56 = .ok (.iconst 1, 1) := by decide +kernel
theorem dX8_check_57 : decode cX8_check 57 = .ok (.putfield 190, 3) := by decide +kernel
theorem dX8_check_60 : decode cX8_check 60 = .ok (.iload_n 2, 1) := by decide +kernel
theorem dX8_check_61 : decode cX8_check 61 = .ok (.iconst (-1), 1) := by decide +kernel
theorem dX8_check_62 : decode cX8_check 62 = .ok (.if_icmp .ne 7, 3) := by decide +kernel
theorem dX8_check_65 : decode cX8_check 65 = .ok (.iconst 0, 1) := by decide +kernel
theorem dX8_check_66 : decode cX8_check 66 = .ok (.goto 6, 3) := by decide +kernel
theorem dX8_check_69 : decode cX8_check 69 = .ok (.iconst (-1), 1) := by decide +kernel
theorem dX8_check_70 : decode cX8_check 70 = .ok (.iload_n 2, 1) := by decide +kernel
theorem dX8_check_71 : decode cX8_check 71 = .ok (.isub, 1) := by decide +kernel
theorem dX8_check_72 : decode cX8_check 72 = .ok (.ireturn, 1) := by decide +kernel
theorem dX8_told_0 : decode cX8_told 0 = .ok (.iload_n 1, 1) := by decide +kernel
theorem dX8_told_1 : decode cX8_told 1 = .ok (.tableswitch 98 0 6 #[43, 51, 56, 61, 69, 77, 85], 43) := by decide +kernel
theorem dX8_told_44 : decode cX8_told 44 = .ok (.aload_n 0, 1) := by decide +kernel
theorem dX8_told_45 : decode cX8_told 45 = .ok (.getfield 12, 3) := by decide +kernel
theorem dX8_told_48 : decode cX8_told 48 = .ok (.getfield 93, 3) := by decide +kernel
theorem dX8_told_51 : decode cX8_told 51 = .ok (.ireturn, 1) := by decide +kernel
theorem dX8_told_52 : decode cX8_told 52 = .ok (.aload_n 0, 1) := by decide +kernel
theorem dX8_told_53 : decode cX8_told 53 = .ok (.getfield 117, 3) := by decide +kernel
theorem dX8_told_56 : decode cX8_told 56 = .ok (.ireturn, 1) := by decide +kernel
theorem dX8_told_57 : decode cX8_told 57 = .ok (.aload_n 0, 1) := by decide +kernel
theorem dX8_told_58 : decode cX8_told 58 = .ok (.getfield 127, 3) := by decide +kernel
theorem dX8_told_61 : decode cX8_told 61 = .ok (.ireturn, 1) := by decide +kernel
theorem dX8_told_62 : decode cX8_told 62 = .ok (.aload_n 0, 1) := by decide +kernel
theorem dX8_told_63 : decode cX8_told 63 = .ok (.getfield 40, 3) := by decide +kernel
theorem dX8_told_66 : decode cX8_told 66 = .ok (.getfield 209, 3) := by decide +kernel
theorem dX8_told_69 : decode cX8_told 69 = .ok (.ireturn, 1) := by decide +kernel
theorem dX8_told_70 : decode cX8_told 70 = .ok (.aload_n 0, 1) := by decide +kernel
theorem dX8_told_71 : decode cX8_told 71 = .ok (.getfield 30, 3) := by decide +kernel
theorem dX8_told_74 : decode cX8_told 74 = .ok (.getfield 178, 3) := by decide +kernel
theorem dX8_told_77 : decode cX8_told 77 = .ok (.ireturn, 1) := by decide +kernel
theorem dX8_told_78 : decode cX8_told 78 = .ok (.aload_n 0, 1) := by decide +kernel
theorem dX8_told_79 : decode cX8_told 79 = .ok (.getfield 34, 3) := by decide +kernel
theorem dX8_told_82 : decode cX8_told 82 = .ok (.getfield 178, 3) := by decide +kernel
theorem dX8_told_85 : decode cX8_told 85 = .ok (.ireturn, 1) := by decide +kernel
theorem dX8_told_86 : decode cX8_told 86 = .ok (.aload_n 0, 1) := by decide +kernel
theorem dX8_told_87 : decode cX8_told 87 = .ok (.getfield 206, 3) := by decide +kernel
theorem dX8_told_90 : decode cX8_told 90 = .ok (.ifCond .eq 7, 3) := by decide +kernel
theorem dX8_told_93 : decode cX8_told 93 = .ok (.iconst 1, 1) := by decide +kernel
theorem dX8_told_94 : decode cX8_told 94 = .ok (.goto 4, 3) := by decide +kernel
theorem dX8_told_97 : decode cX8_told 97 = .ok (.iconst 0, 1) := by decide +kernel
theorem dX8_told_98 : decode cX8_told 98 = .ok (.ireturn, 1) := by decide +kernel
theorem dX8_told_99 : decode cX8_told 99 = .ok (.new 86, 3) := by decide +kernel
theorem dX8_told_102 : decode cX8_told 102 = .ok (.dup, 1) := by decide +kernel
theorem dX8_told_103 : decode cX8_told 103 = .ok (.ldc_w 269, 3) := by decide +kernel
theorem dX8_told_106 : decode cX8_told 106 = .ok (.invokespecial 90, 3) := by decide +kernel
theorem dX8_told_109 : decode cX8_told 109 = .ok (.athrow, 1) := by decide +kernel
theorem dX8_clear_0 : decode cX8_clear 0 = .ok (.aload_n 0, 1) := by decide +kernel
theorem dX8_clear_1 : decode cX8_clear 1 = .ok (.getfield 12, 3) := by decide +kernel
theorem dX8_clear_4 : decode cX8_clear 4 = .ok (.iconst 0, 1) := by decide +kernel
theorem dX8_clear_5 : decode cX8_clear 5 = .ok (.invokevirtual 124, 3) := by decide +kernel
theorem dX8_clear_8 : decode cX8_clear 8 = .ok (.aload_n 0, 1) := by decide +kernel
theorem dX8_clear_9 : decode cX8_clear 9 = .ok (.iconst 0, 1) := by decide +kernel
theorem dX8_clear_10 : decode cX8_clear 10 = .ok (.putfield 117, 3) := by decide +kernel
theorem dX8_clear_13 : decode cX8_clear 13 = .ok (.aload_n 0, 1) := by decide +kernel
theorem dX8_clear_14 : decode cX8_clear 14 = .ok (.iconst 0, 1) := by decide +kernel
theorem dX8_clear_15 : decode cX8_clear 15 = .ok (.putfield 127, 3) := by decide +kernel
theorem dX8_clear_18 : decode cX8_clear 18 = .ok (.aload_n 0, 1) := by decide +kernel
theorem dX8_clear_19 : decode cX8_clear 19 = .ok (.getfield 30, 3) := by decide +kernel
theorem dX8_clear_22 : decode cX8_clear 22 = .ok (.iconst 0, 1) := by decide +kernel
theorem dX8_clear_23 : decode cX8_clear 23 = .ok (.putfield 178, 3) := by decide +kernel
theorem dX8_clear_26 : decode cX8_clear 26 = .ok (.aload_n 0, 1) := by decide +kernel
theorem dX8_clear_27 : decode cX8_clear 27 = .ok (.getfield 34, 3) := by decide +kernel
theorem dX8_clear_30 : decode cX8_clear 30 = .ok (.iconst 0, 1) := by decide +kernel
theorem dX8_clear_31 : decode cX8_clear 31 = .ok (.putfield 178, 3) := by decide +kernel
theorem dX8_clear_34 : decode cX8_clear 34 = .ok (.aload_n 0, 1) := by decide +kernel
theorem dX8_clear_35 : decode cX8_clear 35 = .ok (.getfield 40, 3) := by decide +kernel
theorem dX8_clear_38 : decode cX8_clear 38 = .ok (.invokevirtual 271, 3) := by decide +kernel
theorem dX8_clear_41 : decode cX8_clear 41 = .ok (.aload_n 0, 1) := by decide +kernel
theorem dX8_clear_42 : decode cX8_clear 42 = .ok (.iconst 0, 1) := by decide +kernel
theorem dX8_clear_43 : decode cX8_clear 43 = .ok (.putfield 206, 3) := by decide +kernel
theorem dX8_clear_46 : decode cX8_clear 46 = .ok (.aload_n 0, 1) := by decide +kernel
theorem dX8_clear_47 : decode cX8_clear 47 = .ok (.iconst 0, 1) := by decide +kernel
theorem dX8_clear_48 : decode cX8_clear 48 = .ok (.putfield 190, 3) := by decide +kernel
theorem dX8_clear_51 : decode cX8_clear 51 = .ok (.aload_n 0, 1) := by decide +kernel
theorem dX8_clear_52 : decode cX8_clear 52 = .ok (.getfield 61, 3) := by decide +kernel
theorem dX8_clear_55 : decode cX8_clear 55 = .ok (.iconst 0, 1) := by decide +kernel
theorem dX8_clear_56 : decode cX8_clear 56 = .ok (.putfield 113, 3) := by decide +kernel
theorem dX8_clear_59 : decode cX8_clear 59 = .ok (.return_, 1) := by decide +kernel
theorem dX8_requireVariable_0 : decode cX8_requireVariable 0 = .ok (.iload_n 1, 1) := by decide +kernel
theorem dX8_requireVariable_1 : decode cX8_requireVariable 1 = .ok (.ifCond .lt 9, 3) := by decide +kernel
theorem dX8_requireVariable_4 : decode cX8_requireVariable 4 = .ok (.iload_n 1, 1) := by decide +kernel
theorem dX8_requireVariable_5 : decode cX8_requireVariable 5 = .ok (.bipush 16, 2) := by decide +kernel
theorem dX8_requireVariable_7 : decode cX8_requireVariable 7 = .ok (.if_icmp .lt 14, 3) := by decide +kernel
theorem dX8_requireVariable_10 : decode cX8_requireVariable 10 = .ok (.new 130, 3) := by decide +kernel
theorem dX8_requireVariable_13 : decode cX8_requireVariable 13 = .ok (.dup, 1) := by decide +kernel
theorem dX8_requireVariable_14 : decode cX8_requireVariable 14 = .ok (.ldc_w 274, 3) := by decide +kernel
theorem dX8_requireVariable_17 : decode cX8_requireVariable 17 = .ok (.invokespecial 134, 3) := by decide +kernel
theorem dX8_requireVariable_20 : decode cX8_requireVariable 20 = .ok (.athrow, 1) := by decide +kernel
theorem dX8_requireVariable_21 : decode cX8_requireVariable 21 = .ok (.return_, 1) := by decide +kernel
theorem dX8_requireAtom_0 : decode cX8_requireAtom 0 = .ok (.iload_n 1, 1) := by decide +kernel
theorem dX8_requireAtom_1 : decode cX8_requireAtom 1 = .ok (.ifCond .lt 14, 3) := by decide +kernel
theorem dX8_requireAtom_4 : decode cX8_requireAtom 4 = .ok (.iload_n 1, 1) := by decide +kernel
theorem dX8_requireAtom_5 : decode cX8_requireAtom 5 = .ok (.aload_n 0, 1) := by decide +kernel
theorem dX8_requireAtom_6 : decode cX8_requireAtom 6 = .ok (.getfield 40, 3) := by decide +kernel
theorem dX8_requireAtom_9 : decode cX8_requireAtom 9 = .ok (.getfield 209, 3) := by decide +kernel
theorem dX8_requireAtom_12 : decode cX8_requireAtom 12 = .ok (.if_icmp .lt 14, 3) := by decide +kernel
theorem dX8_requireAtom_15 : decode cX8_requireAtom 15 = .ok (.new 130, 3) := by decide +kernel
theorem dX8_requireAtom_18 : decode cX8_requireAtom 18 = .ok (.dup, 1) := by decide +kernel
theorem dX8_requireAtom_19 : decode cX8_requireAtom 19 = .ok (.ldc_w 276, 3) := by decide +kernel
theorem dX8_requireAtom_22 : decode cX8_requireAtom 22 = .ok (.invokespecial 134, 3) := by decide +kernel
theorem dX8_requireAtom_25 : decode cX8_requireAtom 25 = .ok (.athrow, 1) := by decide +kernel
theorem dX8_requireAtom_26 : decode cX8_requireAtom 26 = .ok (.return_, 1) := by decide +kernel
theorem dX8_keepCore_0 : decode cX8_keepCore 0 = .ok (.aload_n 0, 1) := by decide +kernel
theorem dX8_keepCore_1 : decode cX8_keepCore 1 = .ok (.getfield 22, 3) := by decide +kernel
theorem dX8_keepCore_4 : decode cX8_keepCore 4 = .ok (.iconst 0, 1) := by decide +kernel
theorem dX8_keepCore_5 : decode cX8_keepCore 5 = .ok (.iconst (-1), 1) := by decide +kernel
theorem dX8_keepCore_6 : decode cX8_keepCore 6 = .ok (.iastore, 1) := by decide +kernel
theorem dX8_keepCore_7 : decode cX8_keepCore 7 = .ok (.aload_n 0, 1) := by decide +kernel
theorem dX8_keepCore_8 : decode cX8_keepCore 8 = .ok (.iconst 1, 1) := by decide +kernel
theorem dX8_keepCore_9 : decode cX8_keepCore 9 = .ok (.putfield 127, 3) := by decide +kernel
theorem dX8_keepCore_12 : decode cX8_keepCore 12 = .ok (.iconst 0, 1) := by decide +kernel
theorem dX8_keepCore_13 : decode cX8_keepCore 13 = .ok (.istore_n 1, 1) := by decide +kernel
theorem dX8_keepCore_14 : decode cX8_keepCore 14 = .ok (.iload_n 1, 1) := by decide +kernel
theorem dX8_keepCore_15 : decode cX8_keepCore 15 = .ok (.aload_n 0, 1) := by decide +kernel
theorem dX8_keepCore_16 : decode cX8_keepCore 16 = .ok (.getfield 12, 3) := by decide +kernel
theorem dX8_keepCore_19 : decode cX8_keepCore 19 = .ok (.getfield 153, 3) := by decide +kernel
theorem dX8_keepCore_22 : decode cX8_keepCore 22 = .ok (.if_icmp .ge 49, 3) := by decide +kernel
theorem dX8_keepCore_25 : decode cX8_keepCore 25 = .ok (.aload_n 0, 1) := by decide +kernel
theorem dX8_keepCore_26 : decode cX8_keepCore 26 = .ok (.getfield 127, 3) := by decide +kernel
theorem dX8_keepCore_29 : decode cX8_keepCore 29 = .ok (.aload_n 0, 1) := by decide +kernel
theorem dX8_keepCore_30 : decode cX8_keepCore 30 = .ok (.getfield 22, 3) := by decide +kernel
theorem dX8_keepCore_33 : decode cX8_keepCore 33 = .ok (.arraylength, 1) := by decide +kernel
theorem dX8_keepCore_34 : decode cX8_keepCore 34 = .ok (.if_icmp .ge 37, 3) := by decide +kernel
theorem dX8_keepCore_37 : decode cX8_keepCore 37 = .ok (.aload_n 0, 1) := by decide +kernel
theorem dX8_keepCore_38 : decode cX8_keepCore 38 = .ok (.getfield 22, 3) := by decide +kernel
theorem dX8_keepCore_41 : decode cX8_keepCore 41 = .ok (.aload_n 0, 1) := by decide +kernel
theorem dX8_keepCore_42 : decode cX8_keepCore 42 = .ok (.getfield 127, 3) := by decide +kernel
theorem dX8_keepCore_45 : decode cX8_keepCore 45 = .ok (.aload_n 0, 1) := by decide +kernel
theorem dX8_keepCore_46 : decode cX8_keepCore 46 = .ok (.getfield 12, 3) := by decide +kernel
theorem dX8_keepCore_49 : decode cX8_keepCore 49 = .ok (.getfield 156, 3) := by decide +kernel
theorem dX8_keepCore_52 : decode cX8_keepCore 52 = .ok (.iload_n 1, 1) := by decide +kernel
theorem dX8_keepCore_53 : decode cX8_keepCore 53 = .ok (.iaload, 1) := by decide +kernel
theorem dX8_keepCore_54 : decode cX8_keepCore 54 = .ok (.iastore, 1) := by decide +kernel
theorem dX8_keepCore_55 : decode cX8_keepCore 55 = .ok (.aload_n 0, 1) := by decide +kernel
theorem dX8_keepCore_56 : decode cX8_keepCore 56 = .ok (.dup, 1) := by decide +kernel
theorem dX8_keepCore_57 : decode cX8_keepCore 57 = .ok (.getfield 127, 3) := by decide +kernel
theorem dX8_keepCore_60 : decode cX8_keepCore 60 = .ok (.iconst 1, 1) := by decide +kernel
theorem dX8_keepCore_61 : decode cX8_keepCore 61 = .ok (.iadd, 1) := by decide +kernel
theorem dX8_keepCore_62 : decode cX8_keepCore 62 = .ok (.putfield 127, 3) := by decide +kernel
theorem dX8_keepCore_65 : decode cX8_keepCore 65 = .ok (.iinc 1 1, 3) := by decide +kernel
theorem dX8_keepCore_68 : decode cX8_keepCore 68 = .ok (.goto (-54), 3) := by decide +kernel
theorem dX8_keepCore_71 : decode cX8_keepCore 71 = .ok (.return_, 1) := by decide +kernel
theorem dX8_levelsBefore_0 : decode cX8_levelsBefore 0 = .ok (.iconst 0, 1) := by decide +kernel
theorem dX8_levelsBefore_1 : decode cX8_levelsBefore 1 = .ok (.istore_n 2, 1) := by decide +kernel
theorem dX8_levelsBefore_2 : decode cX8_levelsBefore 2 = .ok (.iconst 0, 1) := by decide +kernel
theorem dX8_levelsBefore_3 : decode cX8_levelsBefore 3 = .ok (.istore_n 3, 1) := by decide +kernel
theorem dX8_levelsBefore_4 : decode cX8_levelsBefore 4 = .ok (.iload_n 3, 1) := by decide +kernel
theorem dX8_levelsBefore_5 : decode cX8_levelsBefore 5 = .ok (.aload_n 0, 1) := by decide +kernel
theorem dX8_levelsBefore_6 : decode cX8_levelsBefore 6 = .ok (.getfield 117, 3) := by decide +kernel
theorem dX8_levelsBefore_9 : decode cX8_levelsBefore 9 = .ok (.if_icmp .ge 22, 3) := by decide +kernel
theorem dX8_levelsBefore_12 : decode cX8_levelsBefore 12 = .ok (.aload_n 0, 1) := by decide +kernel
theorem dX8_levelsBefore_13 : decode cX8_levelsBefore 13 = .ok (.getfield 18, 3) := by decide +kernel
theorem dX8_levelsBefore_16 : decode cX8_levelsBefore 16 = .ok (.iload_n 3, 1) := by decide +kernel
theorem dX8_levelsBefore_17 : decode cX8_levelsBefore 17 = .ok (.iaload, 1) := by decide +kernel
theorem dX8_levelsBefore_18 : decode cX8_levelsBefore 18 = .ok (.iload_n 1, 1) := by decide +kernel
theorem dX8_levelsBefore_19 : decode cX8_levelsBefore 19 = .ok (.if_icmp .gt 6, 3) := by decide +kernel
theorem dX8_levelsBefore_22 : decode cX8_levelsBefore 22 = .ok (.iinc 2 1, 3) := by decide +kernel
theorem dX8_levelsBefore_25 : decode cX8_levelsBefore 25 = .ok (.iinc 3 1, 3) := by decide +kernel
theorem dX8_levelsBefore_28 : decode cX8_levelsBefore 28 = .ok (.goto (-24), 3) := by decide +kernel
theorem dX8_levelsBefore_31 : decode cX8_levelsBefore 31 = .ok (.iload_n 2, 1) := by decide +kernel
theorem dX8_levelsBefore_32 : decode cX8_levelsBefore 32 = .ok (.ireturn, 1) := by decide +kernel
theorem dX8_figureOf_0 : decode cX8_figureOf 0 = .ok (.iload_n 0, 1) := by decide +kernel
theorem dX8_figureOf_1 : decode cX8_figureOf 1 = .ok (.bipush 48, 2) := by decide +kernel
theorem dX8_figureOf_3 : decode cX8_figureOf 3 = .ok (.if_icmp .lt 16, 3) := by decide +kernel
theorem dX8_figureOf_6 : decode cX8_figureOf 6 = .ok (.iload_n 0, 1) := by decide +kernel
theorem dX8_figureOf_7 : decode cX8_figureOf 7 = .ok (.bipush 57, 2) := by decide +kernel
theorem dX8_figureOf_9 : decode cX8_figureOf 9 = .ok (.if_icmp .gt 10, 3) := by decide +kernel
theorem dX8_figureOf_12 : decode cX8_figureOf 12 = .ok (.iload_n 0, 1) := by decide +kernel
theorem dX8_figureOf_13 : decode cX8_figureOf 13 = .ok (.bipush 48, 2) := by decide +kernel
theorem dX8_figureOf_15 : decode cX8_figureOf 15 = .ok (.isub, 1) := by decide +kernel
theorem dX8_figureOf_16 : decode cX8_figureOf 16 = .ok (.goto 4, 3) := by decide +kernel
theorem dX8_figureOf_19 : decode cX8_figureOf 19 = .ok (.iconst (-1), 1) := by decide +kernel
theorem dX8_figureOf_20 : decode cX8_figureOf 20 = .ok (.ireturn, 1) := by decide +kernel
