theorem d_Mo_put_59 : decode prog_7_method_5_code 59 = .ok (.iadd, 1) := by decide +kernel
theorem d_Mo_put_60 : decode prog_7_method_5_code 60 = .ok (.bipush 97, 2) := by decide +kernel
theorem d_Mo_put_62 : decode prog_7_method_5_code 62 = .ok (.if_icmp .le 5, 3) := by decide +kernel
theorem d_Mo_put_65 : decode prog_7_method_5_code 65 = .ok (.iconst 0, 1) := by decide +kernel
theorem d_Mo_put_66 : decode prog_7_method_5_code 66 = .ok (.ireturn, 1) := by decide +kernel
theorem d_Mo_put_67 : decode prog_7_method_5_code 67 = .ok (.iconst 0, 1) := by decide +kernel
theorem d_Mo_put_68 : decode prog_7_method_5_code 68 = .ok (.istore 4, 2) := by decide +kernel
theorem d_Mo_put_70 : decode prog_7_method_5_code 70 = .ok (.iload 4, 2) := by decide +kernel
theorem d_Mo_put_72 : decode prog_7_method_5_code 72 = .ok (.bipush 8, 2) := by decide +kernel
theorem d_Mo_put_74 : decode prog_7_method_5_code 74 = .ok (.if_icmp .ge 43, 3) := by decide +kernel
theorem d_Mo_put_77 : decode prog_7_method_5_code 77 = .ok (.lload_n 1, 1) := by decide +kernel
theorem d_Mo_put_78 : decode prog_7_method_5_code 78 = .ok (.iload 4, 2) := by decide +kernel
theorem d_Mo_put_80 : decode prog_7_method_5_code 80 = .ok (.invokestatic 51, 3) := by decide +kernel
theorem d_Mo_put_83 : decode prog_7_method_5_code 83 = .ok (.istore 5, 2) := by decide +kernel
theorem d_Mo_put_85 : decode prog_7_method_5_code 85 = .ok (.iload 5, 2) := by decide +kernel
theorem d_Mo_put_87 : decode prog_7_method_5_code 87 = .ok (.ifCond .eq 24, 3) := by decide +kernel
theorem d_Mo_put_90 : decode prog_7_method_5_code 90 = .ok (.aload_n 0, 1) := by decide +kernel
theorem d_Mo_put_91 : decode prog_7_method_5_code 91 = .ok (.getfield 7, 3) := by decide +kernel
theorem d_Mo_put_94 : decode prog_7_method_5_code 94 = .ok (.aload_n 0, 1) := by decide +kernel
theorem d_Mo_put_95 : decode prog_7_method_5_code 95 = .ok (.getfield 58, 3) := by decide +kernel
theorem d_Mo_put_98 : decode prog_7_method_5_code 98 = .ok (.iload 5, 2) := by decide +kernel
theorem d_Mo_put_100 : decode prog_7_method_5_code 100 = .ok (.iastore, 1) := by decide +kernel
theorem d_Mo_put_101 : decode prog_7_method_5_code 101 = .ok (.aload_n 0, 1) := by decide +kernel
theorem d_Mo_put_102 : decode prog_7_method_5_code 102 = .ok (.dup, 1) := by decide +kernel
theorem d_Mo_put_103 : decode prog_7_method_5_code 103 = .ok (.getfield 58, 3) := by decide +kernel
theorem d_Mo_put_106 : decode prog_7_method_5_code 106 = .ok (.iconst 1, 1) := by decide +kernel
theorem d_Mo_put_107 : decode prog_7_method_5_code 107 = .ok (.iadd, 1) := by decide +kernel
theorem d_Mo_put_108 : decode prog_7_method_5_code 108 = .ok (.putfield 58, 3) := by decide +kernel
theorem d_Mo_put_111 : decode prog_7_method_5_code 111 = .ok (.iinc 4 1, 3) := by decide +kernel
theorem d_Mo_put_114 : decode prog_7_method_5_code 114 = .ok (.goto (-44), 3) := by decide +kernel
theorem d_Mo_put_117 : decode prog_7_method_5_code 117 = .ok (.iconst 1, 1) := by decide +kernel
theorem d_Mo_put_118 : decode prog_7_method_5_code 118 = .ok (.ireturn, 1) := by decide +kernel
theorem d_Mo_byteOf_0 : decode prog_7_method_4_code 0 = .ok (.lload_n 0, 1) := by decide +kernel
theorem d_Mo_byteOf_1 : decode prog_7_method_4_code 1 = .ok (.bipush 8, 2) := by decide +kernel
theorem d_Mo_byteOf_3 : decode prog_7_method_4_code 3 = .ok (.iload_n 2, 1) := by decide +kernel
theorem d_Mo_byteOf_4 : decode prog_7_method_4_code 4 = .ok (.imul, 1) := by decide +kernel
theorem d_Mo_byteOf_5 : decode prog_7_method_4_code 5 = .ok (.lshr, 1) := by decide +kernel
theorem d_Mo_byteOf_6 : decode prog_7_method_4_code 6 = .ok (.ldc2_w 49, 3) := by decide +kernel
theorem d_Mo_byteOf_9 : decode prog_7_method_4_code 9 = .ok (.land, 1) := by decide +kernel
theorem d_Mo_byteOf_10 : decode prog_7_method_4_code 10 = .ok (.l2i, 1) := by decide +kernel
theorem d_Mo_byteOf_11 : decode prog_7_method_4_code 11 = .ok (.ireturn, 1) := by decide +kernel
theorem d_Mo_isSymbol_0 : decode prog_7_method_3_code 0 = .ok (.iload_n 0, 1) := by decide +kernel
theorem d_Mo_isSymbol_1 : decode prog_7_method_3_code 1 = .ok (.bipush 36, 2) := by decide +kernel
theorem d_Mo_isSymbol_3 : decode prog_7_method_3_code 3 = .ok (.if_icmp .eq 16, 3) := by decide +kernel
theorem d_Mo_isSymbol_6 : decode prog_7_method_3_code 6 = .ok (.iload_n 0, 1) := by decide +kernel
theorem d_Mo_isSymbol_7 : decode prog_7_method_3_code 7 = .ok (.bipush 124, 2) := by decide +kernel
theorem d_Mo_isSymbol_9 : decode prog_7_method_3_code 9 = .ok (.if_icmp .eq 10, 3) := by decide +kernel
theorem d_Mo_isSymbol_12 : decode prog_7_method_3_code 12 = .ok (.iload_n 0, 1) := by decide +kernel
theorem d_Mo_isSymbol_13 : decode prog_7_method_3_code 13 = .ok (.invokestatic 45, 3) := by decide +kernel
theorem d_Mo_isSymbol_16 : decode prog_7_method_3_code 16 = .ok (.ifCond .eq 7, 3) := by decide +kernel
theorem d_Mo_isSymbol_19 : decode prog_7_method_3_code 19 = .ok (.iconst 1, 1) := by decide +kernel
theorem d_Mo_isSymbol_20 : decode prog_7_method_3_code 20 = .ok (.goto 4, 3) := by decide +kernel
theorem d_Mo_isSymbol_23 : decode prog_7_method_3_code 23 = .ok (.iconst 0, 1) := by decide +kernel
theorem d_Mo_isSymbol_24 : decode prog_7_method_3_code 24 = .ok (.ireturn, 1) := by decide +kernel
theorem d_Mo_isLetter_0 : decode prog_7_method_2_code 0 = .ok (.iload_n 0, 1) := by decide +kernel
theorem d_Mo_isLetter_1 : decode prog_7_method_2_code 1 = .ok (.bipush 97, 2) := by decide +kernel
theorem d_Mo_isLetter_3 : decode prog_7_method_2_code 3 = .ok (.if_icmp .lt 13, 3) := by decide +kernel
theorem d_Mo_isLetter_6 : decode prog_7_method_2_code 6 = .ok (.iload_n 0, 1) := by decide +kernel
theorem d_Mo_isLetter_7 : decode prog_7_method_2_code 7 = .ok (.bipush 122, 2) := by decide +kernel
theorem d_Mo_isLetter_9 : decode prog_7_method_2_code 9 = .ok (.if_icmp .gt 7, 3) := by decide +kernel
theorem d_Mo_isLetter_12 : decode prog_7_method_2_code 12 = .ok (.iconst 1, 1) := by decide +kernel
theorem d_Mo_isLetter_13 : decode prog_7_method_2_code 13 = .ok (.goto 4, 3) := by decide +kernel
theorem d_Mo_isLetter_16 : decode prog_7_method_2_code 16 = .ok (.iconst 0, 1) := by decide +kernel
theorem d_Mo_isLetter_17 : decode prog_7_method_2_code 17 = .ok (.ireturn, 1) := by decide +kernel
theorem d_Mo_scrap_0 : decode prog_7_method_6_code 0 = .ok (.aload_n 0, 1) := by decide +kernel
theorem d_Mo_scrap_1 : decode prog_7_method_6_code 1 = .ok (.iconst 0, 1) := by decide +kernel
theorem d_Mo_scrap_2 : decode prog_7_method_6_code 2 = .ok (.putfield 58, 3) := by decide +kernel
theorem d_Mo_scrap_5 : decode prog_7_method_6_code 5 = .ok (.return_, 1) := by decide +kernel
theorem d_Mo_build_0 : decode prog_7_method_11_code 0 = .ok (.aload_n 0, 1) := by decide +kernel
theorem d_Mo_build_1 : decode prog_7_method_11_code 1 = .ok (.getfield 58, 3) := by decide +kernel
theorem d_Mo_build_4 : decode prog_7_method_11_code 4 = .ok (.bipush 96, 2) := by decide +kernel
theorem d_Mo_build_6 : decode prog_7_method_11_code 6 = .ok (.if_icmp .gt 7, 3) := by decide +kernel
theorem d_Mo_build_9 : decode prog_7_method_11_code 9 = .ok (.iconst 1, 1) := by decide +kernel
theorem d_Mo_build_10 : decode prog_7_method_11_code 10 = .ok (.goto 4, 3) := by decide +kernel
theorem d_Mo_build_13 : decode prog_7_method_11_code 13 = .ok (.iconst 0, 1) := by decide +kernel
theorem d_Mo_build_14 : decode prog_7_method_11_code 14 = .ok (.istore_n 1, 1) := by decide +kernel
theorem d_Mo_build_15 : decode prog_7_method_11_code 15 = .ok (.iconst 0, 1) := by decide +kernel
theorem d_Mo_build_16 : decode prog_7_method_11_code 16 = .ok (.istore_n 2, 1) := by decide +kernel
theorem d_Mo_build_17 : decode prog_7_method_11_code 17 = .ok (.iload_n 2, 1) := by decide +kernel
theorem d_Mo_build_18 : decode prog_7_method_11_code 18 = .ok (.aload_n 0, 1) := by decide +kernel
theorem d_Mo_build_19 : decode prog_7_method_11_code 19 = .ok (.getfield 58, 3) := by decide +kernel
theorem d_Mo_build_22 : decode prog_7_method_11_code 22 = .ok (.if_icmp .ge 30, 3) := by decide +kernel
theorem d_Mo_build_25 : decode prog_7_method_11_code 25 = .ok (.iload_n 1, 1) := by decide +kernel
theorem d_Mo_build_26 : decode prog_7_method_11_code 26 = .ok (.ifCond .eq 18, 3) := by decide +kernel
theorem d_Mo_build_29 : decode prog_7_method_11_code 29 = .ok (.aload_n 0, 1) := by decide +kernel
theorem d_Mo_build_30 : decode prog_7_method_11_code 30 = .ok (.getfield 7, 3) := by decide +kernel
theorem d_Mo_build_33 : decode prog_7_method_11_code 33 = .ok (.iload_n 2, 1) := by decide +kernel
theorem d_Mo_build_34 : decode prog_7_method_11_code 34 = .ok (.iaload, 1) := by decide +kernel
theorem d_Mo_build_35 : decode prog_7_method_11_code 35 = .ok (.bipush 36, 2) := by decide +kernel
theorem d_Mo_build_37 : decode prog_7_method_11_code 37 = .ok (.if_icmp .eq 7, 3) := by decide +kernel
theorem d_Mo_build_40 : decode prog_7_method_11_code 40 = .ok (.iconst 1, 1) := by decide +kernel
theorem d_Mo_build_41 : decode prog_7_method_11_code 41 = .ok (.goto 4, 3) := by decide +kernel
theorem d_Mo_build_44 : decode prog_7_method_11_code 44 = .ok (.iconst 0, 1) := by decide +kernel
theorem d_Mo_build_45 : decode prog_7_method_11_code 45 = .ok (.istore_n 1, 1) := by decide +kernel
theorem d_Mo_build_46 : decode prog_7_method_11_code 46 = .ok (.iinc 2 1, 3) := by decide +kernel
theorem d_Mo_build_49 : decode prog_7_method_11_code 49 = .ok (.goto (-32), 3) := by decide +kernel
theorem d_Mo_build_52 : decode prog_7_method_11_code 52 = .ok (.iload_n 1, 1) := by decide +kernel
theorem d_Mo_build_53 : decode prog_7_method_11_code 53 = .ok (.ifCond .ne 5, 3) := by decide +kernel
theorem d_Mo_build_56 : decode prog_7_method_11_code 56 = .ok (.iconst (-1), 1) := by decide +kernel
theorem d_Mo_build_57 : decode prog_7_method_11_code 57 = .ok (.ireturn, 1) := by decide +kernel
theorem d_Mo_build_58 : decode prog_7_method_11_code 58 = .ok (.aload_n 0, 1) := by decide +kernel
theorem d_Mo_build_59 : decode prog_7_method_11_code 59 = .ok (.aload_n 0, 1) := by decide +kernel
theorem d_Mo_build_60 : decode prog_7_method_11_code 60 = .ok (.getfield 58, 3) := by decide +kernel
theorem d_Mo_build_63 : decode prog_7_method_11_code 63 = .ok (.putfield 13, 3) := by decide +kernel
theorem d_Mo_build_66 : decode prog_7_method_11_code 66 = .ok (.iconst 0, 1) := by decide +kernel
theorem d_Mo_build_67 : decode prog_7_method_11_code 67 = .ok (.istore_n 2, 1) := by decide +kernel
theorem d_Mo_build_68 : decode prog_7_method_11_code 68 = .ok (.iload_n 2, 1) := by decide +kernel
theorem d_Mo_build_69 : decode prog_7_method_11_code 69 = .ok (.aload_n 0, 1) := by decide +kernel
theorem d_Mo_build_70 : decode prog_7_method_11_code 70 = .ok (.getfield 13, 3) := by decide +kernel
theorem d_Mo_build_73 : decode prog_7_method_11_code 73 = .ok (.if_icmp .ge 21, 3) := by decide +kernel
theorem d_Mo_build_76 : decode prog_7_method_11_code 76 = .ok (.aload_n 0, 1) := by decide +kernel
theorem d_Mo_build_77 : decode prog_7_method_11_code 77 = .ok (.getfield 17, 3) := by decide +kernel
theorem d_Mo_build_80 : decode prog_7_method_11_code 80 = .ok (.iload_n 2, 1) := by decide +kernel
theorem d_Mo_build_81 : decode prog_7_method_11_code 81 = .ok (.aload_n 0, 1) := by decide +kernel
theorem d_Mo_build_82 : decode prog_7_method_11_code 82 = .ok (.getfield 7, 3) := by decide +kernel
theorem d_Mo_build_85 : decode prog_7_method_11_code 85 = .ok (.iload_n 2, 1) := by decide +kernel
theorem d_Mo_build_86 : decode prog_7_method_11_code 86 = .ok (.iaload, 1) := by decide +kernel
theorem d_Mo_build_87 : decode prog_7_method_11_code 87 = .ok (.iastore, 1) := by decide +kernel
theorem d_Mo_build_88 : decode prog_7_method_11_code 88 = .ok (.iinc 2 1, 3) := by decide +kernel
theorem d_Mo_build_91 : decode prog_7_method_11_code 91 = .ok (.goto (-23), 3) := by decide +kernel
theorem d_Mo_build_94 : decode prog_7_method_11_code 94 = .ok (.aload_n 0, 1) := by decide +kernel
theorem d_Mo_build_95 : decode prog_7_method_11_code 95 = .ok (.invokevirtual 72, 3) := by decide +kernel
theorem d_Mo_build_98 : decode prog_7_method_11_code 98 = .ok (.aload_n 0, 1) := by decide +kernel
theorem d_Mo_build_99 : decode prog_7_method_11_code 99 = .ok (.iconst 0, 1) := by decide +kernel
theorem d_Mo_build_100 : decode prog_7_method_11_code 100 = .ok (.putfield 58, 3) := by decide +kernel
theorem d_Mo_build_103 : decode prog_7_method_11_code 103 = .ok (.aload_n 0, 1) := by decide +kernel
theorem d_Mo_build_104 : decode prog_7_method_11_code 104 = .ok (.invokevirtual 75, 3) := by decide +kernel
theorem d_Mo_build_107 : decode prog_7_method_11_code 107 = .ok (.ireturn, 1) := by decide +kernel
theorem d_Mo_sort_0 : decode prog_7_method_10_code 0 = .ok (.iconst 0, 1) := by decide +kernel
theorem d_Mo_sort_1 : decode prog_7_method_10_code 1 = .ok (.istore_n 1, 1) := by decide +kernel
theorem d_Mo_sort_2 : decode prog_7_method_10_code 2 = .ok (.iload_n 1, 1) := by decide +kernel
theorem d_Mo_sort_3 : decode prog_7_method_10_code 3 = .ok (.aload_n 0, 1) := by decide +kernel
theorem d_Mo_sort_4 : decode prog_7_method_10_code 4 = .ok (.getfield 13, 3) := by decide +kernel
theorem d_Mo_sort_7 : decode prog_7_method_10_code 7 = .ok (.if_icmp .gt 58, 3) := by decide +kernel
theorem d_Mo_sort_10 : decode prog_7_method_10_code 10 = .ok (.iload_n 1, 1) := by decide +kernel
theorem d_Mo_sort_11 : decode prog_7_method_10_code 11 = .ok (.istore_n 2, 1) := by decide +kernel
theorem d_Mo_sort_12 : decode prog_7_method_10_code 12 = .ok (.iload_n 2, 1) := by decide +kernel
theorem d_Mo_sort_13 : decode prog_7_method_10_code 13 = .ok (.ifCond .le 39, 3) := by decide +kernel
theorem d_Mo_sort_16 : decode prog_7_method_10_code 16 = .ok (.aload_n 0, 1) := by decide +kernel
theorem d_Mo_sort_17 : decode prog_7_method_10_code 17 = .ok (.iload_n 1, 1) := by decide +kernel
theorem d_Mo_sort_18 : decode prog_7_method_10_code 18 = .ok (.aload_n 0, 1) := by decide +kernel
theorem d_Mo_sort_19 : decode prog_7_method_10_code 19 = .ok (.getfield 20, 3) := by decide +kernel
theorem d_Mo_sort_22 : decode prog_7_method_10_code 22 = .ok (.iload_n 2, 1) := by decide +kernel
theorem d_Mo_sort_23 : decode prog_7_method_10_code 23 = .ok (.iconst 1, 1) := by decide +kernel
theorem d_Mo_sort_24 : decode prog_7_method_10_code 24 = .ok (.isub, 1) := by decide +kernel
theorem d_Mo_sort_25 : decode prog_7_method_10_code 25 = .ok (.iaload, 1) := by decide +kernel
theorem d_Mo_sort_26 : decode prog_7_method_10_code 26 = .ok (.invokevirtual 68, 3) := by decide +kernel
theorem d_Mo_sort_29 : decode prog_7_method_10_code 29 = .ok (.ifCond .eq 23, 3) := by decide +kernel
theorem d_Mo_sort_32 : decode prog_7_method_10_code 32 = .ok (.aload_n 0, 1) := by decide +kernel
theorem d_Mo_sort_33 : decode prog_7_method_10_code 33 = .ok (.getfield 20, 3) := by decide +kernel
theorem d_Mo_sort_36 : decode prog_7_method_10_code 36 = .ok (.iload_n 2, 1) := by decide +kernel
theorem d_Mo_sort_37 : decode prog_7_method_10_code 37 = .ok (.aload_n 0, 1) := by decide +kernel
theorem d_Mo_sort_38 : decode prog_7_method_10_code 38 = .ok (.getfield 20, 3) := by decide +kernel
theorem d_Mo_sort_41 : decode prog_7_method_10_code 41 = .ok (.iload_n 2, 1) := by decide +kernel
theorem d_Mo_sort_42 : decode prog_7_method_10_code 42 = .ok (.iconst 1, 1) := by decide +kernel
theorem d_Mo_sort_43 : decode prog_7_method_10_code 43 = .ok (.isub, 1) := by decide +kernel
theorem d_Mo_sort_44 : decode prog_7_method_10_code 44 = .ok (.iaload, 1) := by decide +kernel
theorem d_Mo_sort_45 : decode prog_7_method_10_code 45 = .ok (.iastore, 1) := by decide +kernel
theorem d_Mo_sort_46 : decode prog_7_method_10_code 46 = .ok (.iinc 2 (-1), 3) := by decide +kernel
theorem d_Mo_sort_49 : decode prog_7_method_10_code 49 = .ok (.goto (-37), 3) := by decide +kernel
theorem d_Mo_sort_52 : decode prog_7_method_10_code 52 = .ok (.aload_n 0, 1) := by decide +kernel
theorem d_Mo_sort_53 : decode prog_7_method_10_code 53 = .ok (.getfield 20, 3) := by decide +kernel
theorem d_Mo_sort_56 : decode prog_7_method_10_code 56 = .ok (.iload_n 2, 1) := by decide +kernel
theorem d_Mo_sort_57 : decode prog_7_method_10_code 57 = .ok (.iload_n 1, 1) := by decide +kernel
theorem d_Mo_sort_58 : decode prog_7_method_10_code 58 = .ok (.iastore, 1) := by decide +kernel
theorem d_Mo_sort_59 : decode prog_7_method_10_code 59 = .ok (.iinc 1 1, 3) := by decide +kernel
theorem d_Mo_sort_62 : decode prog_7_method_10_code 62 = .ok (.goto (-60), 3) := by decide +kernel
theorem d_Mo_sort_65 : decode prog_7_method_10_code 65 = .ok (.iconst 0, 1) := by decide +kernel
theorem d_Mo_sort_66 : decode prog_7_method_10_code 66 = .ok (.istore_n 1, 1) := by decide +kernel
theorem d_Mo_sort_67 : decode prog_7_method_10_code 67 = .ok (.iload_n 1, 1) := by decide +kernel
theorem d_Mo_sort_68 : decode prog_7_method_10_code 68 = .ok (.aload_n 0, 1) := by decide +kernel
theorem d_Mo_sort_69 : decode prog_7_method_10_code 69 = .ok (.getfield 13, 3) := by decide +kernel
theorem d_Mo_sort_72 : decode prog_7_method_10_code 72 = .ok (.if_icmp .gt 42, 3) := by decide +kernel
theorem d_Mo_sort_75 : decode prog_7_method_10_code 75 = .ok (.aload_n 0, 1) := by decide +kernel
theorem d_Mo_sort_76 : decode prog_7_method_10_code 76 = .ok (.getfield 23, 3) := by decide +kernel
theorem d_Mo_sort_79 : decode prog_7_method_10_code 79 = .ok (.iload_n 1, 1) := by decide +kernel
theorem d_Mo_sort_80 : decode prog_7_method_10_code 80 = .ok (.aload_n 0, 1) := by decide +kernel
theorem d_Mo_sort_81 : decode prog_7_method_10_code 81 = .ok (.getfield 20, 3) := by decide +kernel
theorem d_Mo_sort_84 : decode prog_7_method_10_code 84 = .ok (.iload_n 1, 1) := by decide +kernel
theorem d_Mo_sort_85 : decode prog_7_method_10_code 85 = .ok (.iaload, 1) := by decide +kernel
theorem d_Mo_sort_86 : decode prog_7_method_10_code 86 = .ok (.ifCond .ne 8, 3) := by decide +kernel
theorem d_Mo_sort_89 : decode prog_7_method_10_code 89 = .ok (.bipush 36, 2) := by decide +kernel
theorem d_Mo_sort_91 : decode prog_7_method_10_code 91 = .ok (.goto 16, 3) := by decide +kernel
theorem d_Mo_sort_94 : decode prog_7_method_10_code 94 = .ok (.aload_n 0, 1) := by decide +kernel
theorem d_Mo_sort_95 : decode prog_7_method_10_code 95 = .ok (.getfield 17, 3) := by decide +kernel
theorem d_Mo_sort_98 : decode prog_7_method_10_code 98 = .ok (.aload_n 0, 1) := by decide +kernel
theorem d_Mo_sort_99 : decode prog_7_method_10_code 99 = .ok (.getfield 20, 3) := by decide +kernel
theorem d_Mo_sort_102 : decode prog_7_method_10_code 102 = .ok (.iload_n 1, 1) := by decide +kernel
theorem d_Mo_sort_103 : decode prog_7_method_10_code 103 = .ok (.iaload, 1) := by decide +kernel
theorem d_Mo_sort_104 : decode prog_7_method_10_code 104 = .ok (.iconst 1, 1) := by decide +kernel
theorem d_Mo_sort_105 : decode prog_7_method_10_code 105 = .ok (.isub, 1) := by decide +kernel
theorem d_Mo_sort_106 : decode prog_7_method_10_code 106 = .ok (.iaload, 1) := by decide +kernel
theorem d_Mo_sort_107 : decode prog_7_method_10_code 107 = .ok (.iastore, 1) := by decide +kernel
theorem d_Mo_sort_108 : decode prog_7_method_10_code 108 = .ok (.iinc 1 1, 3) := by decide +kernel
theorem d_Mo_sort_111 : decode prog_7_method_10_code 111 = .ok (.goto (-44), 3) := by decide +kernel
theorem d_Mo_sort_114 : decode prog_7_method_10_code 114 = .ok (.return_, 1) := by decide +kernel
theorem d_Mo_before_0 : decode prog_7_method_9_code 0 = .ok (.iconst 0, 1) := by decide +kernel
theorem d_Mo_before_1 : decode prog_7_method_9_code 1 = .ok (.istore_n 3, 1) := by decide +kernel
theorem d_Mo_before_2 : decode prog_7_method_9_code 2 = .ok (.iload_n 1, 1) := by decide +kernel
theorem d_Mo_before_3 : decode prog_7_method_9_code 3 = .ok (.iload_n 3, 1) := by decide +kernel
theorem d_Mo_before_4 : decode prog_7_method_9_code 4 = .ok (.iadd, 1) := by decide +kernel
theorem d_Mo_before_5 : decode prog_7_method_9_code 5 = .ok (.aload_n 0, 1) := by decide +kernel
theorem d_Mo_before_6 : decode prog_7_method_9_code 6 = .ok (.getfield 13, 3) := by decide +kernel
theorem d_Mo_before_9 : decode prog_7_method_9_code 9 = .ok (.if_icmp .ge 38, 3) := by decide +kernel
theorem d_Mo_before_12 : decode prog_7_method_9_code 12 = .ok (.iload_n 2, 1) := by decide +kernel
theorem d_Mo_before_13 : decode prog_7_method_9_code 13 = .ok (.iload_n 3, 1) := by decide +kernel
theorem d_Mo_before_14 : decode prog_7_method_9_code 14 = .ok (.iadd, 1) := by decide +kernel
theorem d_Mo_before_15 : decode prog_7_method_9_code 15 = .ok (.aload_n 0, 1) := by decide +kernel
theorem d_Mo_before_16 : decode prog_7_method_9_code 16 = .ok (.getfield 13, 3) := by decide +kernel
theorem d_Mo_before_19 : decode prog_7_method_9_code 19 = .ok (.if_icmp .ge 28, 3) := by decide +kernel
theorem d_Mo_before_22 : decode prog_7_method_9_code 22 = .ok (.aload_n 0, 1) := by decide +kernel
theorem d_Mo_before_23 : decode prog_7_method_9_code 23 = .ok (.getfield 17, 3) := by decide +kernel
theorem d_Mo_before_26 : decode prog_7_method_9_code 26 = .ok (.iload_n 1, 1) := by decide +kernel
theorem d_Mo_before_27 : decode prog_7_method_9_code 27 = .ok (.iload_n 3, 1) := by decide +kernel
theorem d_Mo_before_28 : decode prog_7_method_9_code 28 = .ok (.iadd, 1) := by decide +kernel
theorem d_Mo_before_29 : decode prog_7_method_9_code 29 = .ok (.iaload, 1) := by decide +kernel
theorem d_Mo_before_30 : decode prog_7_method_9_code 30 = .ok (.aload_n 0, 1) := by decide +kernel
theorem d_Mo_before_31 : decode prog_7_method_9_code 31 = .ok (.getfield 17, 3) := by decide +kernel
theorem d_Mo_before_34 : decode prog_7_method_9_code 34 = .ok (.iload_n 2, 1) := by decide +kernel
theorem d_Mo_before_35 : decode prog_7_method_9_code 35 = .ok (.iload_n 3, 1) := by decide +kernel
theorem d_Mo_before_36 : decode prog_7_method_9_code 36 = .ok (.iadd, 1) := by decide +kernel
theorem d_Mo_before_37 : decode prog_7_method_9_code 37 = .ok (.iaload, 1) := by decide +kernel
theorem d_Mo_before_38 : decode prog_7_method_9_code 38 = .ok (.if_icmp .ne 9, 3) := by decide +kernel
theorem d_Mo_before_41 : decode prog_7_method_9_code 41 = .ok (.iinc 3 1, 3) := by decide +kernel
theorem d_Mo_before_44 : decode prog_7_method_9_code 44 = .ok (.goto (-42), 3) := by decide +kernel
theorem d_Mo_before_47 : decode prog_7_method_9_code 47 = .ok (.aload_n 0, 1) := by decide +kernel
theorem d_Mo_before_48 : decode prog_7_method_9_code 48 = .ok (.iload_n 1, 1) := by decide +kernel
theorem d_Mo_before_49 : decode prog_7_method_9_code 49 = .ok (.iload_n 3, 1) := by decide +kernel
theorem d_Mo_before_50 : decode prog_7_method_9_code 50 = .ok (.iadd, 1) := by decide +kernel
theorem d_Mo_before_51 : decode prog_7_method_9_code 51 = .ok (.invokevirtual 61, 3) := by decide +kernel
theorem d_Mo_before_54 : decode prog_7_method_9_code 54 = .ok (.invokestatic 65, 3) := by decide +kernel
theorem d_Mo_before_57 : decode prog_7_method_9_code 57 = .ok (.istore 4, 2) := by decide +kernel
theorem d_Mo_before_59 : decode prog_7_method_9_code 59 = .ok (.iload 4, 2) := by decide +kernel
theorem d_Mo_before_61 : decode prog_7_method_9_code 61 = .ok (.aload_n 0, 1) := by decide +kernel
theorem d_Mo_before_62 : decode prog_7_method_9_code 62 = .ok (.iload_n 2, 1) := by decide +kernel
theorem d_Mo_before_63 : decode prog_7_method_9_code 63 = .ok (.iload_n 3, 1) := by decide +kernel
theorem d_Mo_before_64 : decode prog_7_method_9_code 64 = .ok (.iadd, 1) := by decide +kernel
theorem d_Mo_before_65 : decode prog_7_method_9_code 65 = .ok (.invokevirtual 61, 3) := by decide +kernel
theorem d_Mo_before_68 : decode prog_7_method_9_code 68 = .ok (.invokestatic 65, 3) := by decide +kernel
theorem d_Mo_before_71 : decode prog_7_method_9_code 71 = .ok (.if_icmp .ge 7, 3) := by decide +kernel
theorem d_Mo_before_74 : decode prog_7_method_9_code 74 = .ok (.iconst 1, 1) := by decide +kernel
theorem d_Mo_before_75 : decode prog_7_method_9_code 75 = .ok (.goto 4, 3) := by decide +kernel
theorem d_Mo_before_78 : decode prog_7_method_9_code 78 = .ok (.iconst 0, 1) := by decide +kernel
theorem d_Mo_before_79 : decode prog_7_method_9_code 79 = .ok (.ireturn, 1) := by decide +kernel
theorem d_Mo_symbolAt_0 : decode prog_7_method_8_code 0 = .ok (.iload_n 1, 1) := by decide +kernel
theorem d_Mo_symbolAt_1 : decode prog_7_method_8_code 1 = .ok (.aload_n 0, 1) := by decide +kernel
theorem d_Mo_symbolAt_2 : decode prog_7_method_8_code 2 = .ok (.getfield 13, 3) := by decide +kernel
theorem d_Mo_symbolAt_5 : decode prog_7_method_8_code 5 = .ok (.if_icmp .lt 8, 3) := by decide +kernel
theorem d_Mo_symbolAt_8 : decode prog_7_method_8_code 8 = .ok (.bipush 36, 2) := by decide +kernel
theorem d_Mo_symbolAt_10 : decode prog_7_method_8_code 10 = .ok (.goto 9, 3) := by decide +kernel
theorem d_Mo_symbolAt_13 : decode prog_7_method_8_code 13 = .ok (.aload_n 0, 1) := by decide +kernel
theorem d_Mo_symbolAt_14 : decode prog_7_method_8_code 14 = .ok (.getfield 17, 3) := by decide +kernel
theorem d_Mo_symbolAt_17 : decode prog_7_method_8_code 17 = .ok (.iload_n 1, 1) := by decide +kernel
theorem d_Mo_symbolAt_18 : decode prog_7_method_8_code 18 = .ok (.iaload, 1) := by decide +kernel
theorem d_Mo_symbolAt_19 : decode prog_7_method_8_code 19 = .ok (.ireturn, 1) := by decide +kernel
theorem d_Mo_worth_0 : decode prog_7_method_7_code 0 = .ok (.iload_n 0, 1) := by decide +kernel
theorem d_Mo_worth_1 : decode prog_7_method_7_code 1 = .ok (.bipush 36, 2) := by decide +kernel
theorem d_Mo_worth_3 : decode prog_7_method_7_code 3 = .ok (.if_icmp .ne 7, 3) := by decide +kernel
theorem d_Mo_worth_6 : decode prog_7_method_7_code 6 = .ok (.iconst 0, 1) := by decide +kernel
theorem d_Mo_worth_7 : decode prog_7_method_7_code 7 = .ok (.goto 14, 3) := by decide +kernel
theorem d_Mo_worth_10 : decode prog_7_method_7_code 10 = .ok (.iload_n 0, 1) := by decide +kernel
theorem d_Mo_worth_11 : decode prog_7_method_7_code 11 = .ok (.bipush 124, 2) := by decide +kernel
theorem d_Mo_worth_13 : decode prog_7_method_7_code 13 = .ok (.if_icmp .ne 7, 3) := by decide +kernel
theorem d_Mo_worth_16 : decode prog_7_method_7_code 16 = .ok (.iconst 1, 1) := by decide +kernel
theorem d_Mo_worth_17 : decode prog_7_method_7_code 17 = .ok (.goto 4, 3) := by decide +kernel
theorem d_Mo_worth_20 : decode prog_7_method_7_code 20 = .ok (.iload_n 0, 1) := by decide +kernel
theorem d_Mo_worth_21 : decode prog_7_method_7_code 21 = .ok (.ireturn, 1) := by decide +kernel
theorem d_Mo_sequences_0 : decode prog_7_method_20_code 0 = .ok (.aload_n 0, 1) := by decide +kernel
theorem d_Mo_sequences_1 : decode prog_7_method_20_code 1 = .ok (.getfield 13, 3) := by decide +kernel
theorem d_Mo_sequences_4 : decode prog_7_method_20_code 4 = .ok (.ifCond .ge 7, 3) := by decide +kernel
theorem d_Mo_sequences_7 : decode prog_7_method_20_code 7 = .ok (.iconst 0, 1) := by decide +kernel
theorem d_Mo_sequences_8 : decode prog_7_method_20_code 8 = .ok (.goto 4, 3) := by decide +kernel
theorem d_Mo_sequences_11 : decode prog_7_method_20_code 11 = .ok (.iconst 1, 1) := by decide +kernel
theorem d_Mo_sequences_12 : decode prog_7_method_20_code 12 = .ok (.istore_n 1, 1) := by decide +kernel
theorem d_Mo_sequences_13 : decode prog_7_method_20_code 13 = .ok (.iconst 0, 1) := by decide +kernel
theorem d_Mo_sequences_14 : decode prog_7_method_20_code 14 = .ok (.istore_n 2, 1) := by decide +kernel
theorem d_Mo_sequences_15 : decode prog_7_method_20_code 15 = .ok (.iload_n 2, 1) := by decide +kernel
theorem d_Mo_sequences_16 : decode prog_7_method_20_code 16 = .ok (.aload_n 0, 1) := by decide +kernel
theorem d_Mo_sequences_17 : decode prog_7_method_20_code 17 = .ok (.getfield 13, 3) := by decide +kernel
theorem d_Mo_sequences_20 : decode prog_7_method_20_code 20 = .ok (.if_icmp .ge 28, 3) := by decide +kernel
theorem d_Mo_sequences_23 : decode prog_7_method_20_code 23 = .ok (.iload_n 1, 1) := by decide +kernel
theorem d_Mo_sequences_24 : decode prog_7_method_20_code 24 = .ok (.aload_n 0, 1) := by decide +kernel
theorem d_Mo_sequences_25 : decode prog_7_method_20_code 25 = .ok (.getfield 17, 3) := by decide +kernel
theorem d_Mo_sequences_28 : decode prog_7_method_20_code 28 = .ok (.iload_n 2, 1) := by decide +kernel
theorem d_Mo_sequences_29 : decode prog_7_method_20_code 29 = .ok (.iaload, 1) := by decide +kernel
theorem d_Mo_sequences_30 : decode prog_7_method_20_code 30 = .ok (.bipush 124, 2) := by decide +kernel
theorem d_Mo_sequences_32 : decode prog_7_method_20_code 32 = .ok (.if_icmp .ne 7, 3) := by decide +kernel
theorem d_Mo_sequences_35 : decode prog_7_method_20_code 35 = .ok (.iconst 1, 1) := by decide +kernel
theorem d_Mo_sequences_36 : decode prog_7_method_20_code 36 = .ok (.goto 4, 3) := by decide +kernel
theorem d_Mo_sequences_39 : decode prog_7_method_20_code 39 = .ok (.iconst 0, 1) := by decide +kernel
theorem d_Mo_sequences_40 : decode prog_7_method_20_code 40 = .ok (.iadd, 1) := by decide +kernel
theorem d_Mo_sequences_41 : decode prog_7_method_20_code 41 = .ok (.istore_n 1, 1) := by decide +kernel
theorem d_Mo_sequences_42 : decode prog_7_method_20_code 42 = .ok (.iinc 2 1, 3) := by decide +kernel
theorem d_Mo_sequences_45 : decode prog_7_method_20_code 45 = .ok (.goto (-30), 3) := by decide +kernel
theorem d_Mo_sequences_48 : decode prog_7_method_20_code 48 = .ok (.iload_n 1, 1) := by decide +kernel
theorem d_Mo_sequences_49 : decode prog_7_method_20_code 49 = .ok (.ireturn, 1) := by decide +kernel
theorem d_Mo_load_0 : decode prog_7_method_13_code 0 = .ok (.aload_n 0, 1) := by decide +kernel
theorem d_Mo_load_1 : decode prog_7_method_13_code 1 = .ok (.getfield 58, 3) := by decide +kernel
theorem d_Mo_load_4 : decode prog_7_method_13_code 4 = .ok (.ifCond .ne 5, 3) := by decide +kernel
theorem d_Mo_load_7 : decode prog_7_method_13_code 7 = .ok (.iconst 0, 1) := by decide +kernel
theorem d_Mo_load_8 : decode prog_7_method_13_code 8 = .ok (.ireturn, 1) := by decide +kernel
theorem d_Mo_load_9 : decode prog_7_method_13_code 9 = .ok (.aload_n 0, 1) := by decide +kernel
theorem d_Mo_load_10 : decode prog_7_method_13_code 10 = .ok (.getfield 13, 3) := by decide +kernel
theorem d_Mo_load_13 : decode prog_7_method_13_code 13 = .ok (.istore_n 1, 1) := by decide +kernel
theorem d_Mo_load_14 : decode prog_7_method_13_code 14 = .ok (.iconst 0, 1) := by decide +kernel
theorem d_Mo_load_15 : decode prog_7_method_13_code 15 = .ok (.istore_n 2, 1) := by decide +kernel
theorem d_Mo_load_16 : decode prog_7_method_13_code 16 = .ok (.iload_n 2, 1) := by decide +kernel
theorem d_Mo_load_17 : decode prog_7_method_13_code 17 = .ok (.iload_n 1, 1) := by decide +kernel
theorem d_Mo_load_18 : decode prog_7_method_13_code 18 = .ok (.if_icmp .ge 21, 3) := by decide +kernel
theorem d_Mo_load_21 : decode prog_7_method_13_code 21 = .ok (.aload_n 0, 1) := by decide +kernel
theorem d_Mo_load_22 : decode prog_7_method_13_code 22 = .ok (.getfield 30, 3) := by decide +kernel
theorem d_Mo_load_25 : decode prog_7_method_13_code 25 = .ok (.iload_n 2, 1) := by decide +kernel
theorem d_Mo_load_26 : decode prog_7_method_13_code 26 = .ok (.aload_n 0, 1) := by decide +kernel
theorem d_Mo_load_27 : decode prog_7_method_13_code 27 = .ok (.getfield 17, 3) := by decide +kernel
theorem d_Mo_load_30 : decode prog_7_method_13_code 30 = .ok (.iload_n 2, 1) := by decide +kernel
theorem d_Mo_load_31 : decode prog_7_method_13_code 31 = .ok (.iaload, 1) := by decide +kernel
theorem d_Mo_load_32 : decode prog_7_method_13_code 32 = .ok (.iastore, 1) := by decide +kernel
theorem d_Mo_load_33 : decode prog_7_method_13_code 33 = .ok (.iinc 2 1, 3) := by decide +kernel
theorem d_Mo_load_36 : decode prog_7_method_13_code 36 = .ok (.goto (-20), 3) := by decide +kernel
theorem d_Mo_load_39 : decode prog_7_method_13_code 39 = .ok (.aload_n 0, 1) := by decide +kernel
theorem d_Mo_load_40 : decode prog_7_method_13_code 40 = .ok (.invokevirtual 79, 3) := by decide +kernel
theorem d_Mo_load_43 : decode prog_7_method_13_code 43 = .ok (.istore_n 2, 1) := by decide +kernel
theorem d_Mo_load_44 : decode prog_7_method_13_code 44 = .ok (.iload_n 2, 1) := by decide +kernel
theorem d_Mo_load_45 : decode prog_7_method_13_code 45 = .ok (.ifCond .eq 48, 3) := by decide +kernel
theorem d_Mo_load_48 : decode prog_7_method_13_code 48 = .ok (.aload_n 0, 1) := by decide +kernel
theorem d_Mo_load_49 : decode prog_7_method_13_code 49 = .ok (.invokevirtual 72, 3) := by decide +kernel
theorem d_Mo_load_52 : decode prog_7_method_13_code 52 = .ok (.iconst 0, 1) := by decide +kernel
theorem d_Mo_load_53 : decode prog_7_method_13_code 53 = .ok (.istore_n 3, 1) := by decide +kernel
theorem d_Mo_load_54 : decode prog_7_method_13_code 54 = .ok (.iload_n 3, 1) := by decide +kernel
theorem d_Mo_load_55 : decode prog_7_method_13_code 55 = .ok (.aload_n 0, 1) := by decide +kernel
theorem d_Mo_load_56 : decode prog_7_method_13_code 56 = .ok (.getfield 58, 3) := by decide +kernel
theorem d_Mo_load_59 : decode prog_7_method_13_code 59 = .ok (.if_icmp .ge 34, 3) := by decide +kernel
theorem d_Mo_load_62 : decode prog_7_method_13_code 62 = .ok (.iload_n 2, 1) := by decide +kernel
theorem d_Mo_load_63 : decode prog_7_method_13_code 63 = .ok (.ifCond .eq 22, 3) := by decide +kernel
theorem d_Mo_load_66 : decode prog_7_method_13_code 66 = .ok (.aload_n 0, 1) := by decide +kernel
theorem d_Mo_load_67 : decode prog_7_method_13_code 67 = .ok (.getfield 23, 3) := by decide +kernel
theorem d_Mo_load_70 : decode prog_7_method_13_code 70 = .ok (.iload_n 3, 1) := by decide +kernel
theorem d_Mo_load_71 : decode prog_7_method_13_code 71 = .ok (.iaload, 1) := by decide +kernel
theorem d_Mo_load_72 : decode prog_7_method_13_code 72 = .ok (.aload_n 0, 1) := by decide +kernel
theorem d_Mo_load_73 : decode prog_7_method_13_code 73 = .ok (.getfield 7, 3) := by decide +kernel
theorem d_Mo_load_76 : decode prog_7_method_13_code 76 = .ok (.iload_n 3, 1) := by decide +kernel
theorem d_Mo_load_77 : decode prog_7_method_13_code 77 = .ok (.iaload, 1) := by decide +kernel
theorem d_Mo_load_78 : decode prog_7_method_13_code 78 = .ok (.if_icmp .ne 7, 3) := by decide +kernel
theorem d_Mo_load_81 : decode prog_7_method_13_code 81 = .ok (.iconst 1, 1) := by decide +kernel
theorem d_Mo_load_82 : decode prog_7_method_13_code 82 = .ok (.goto 4, 3) := by decide +kernel
theorem d_Mo_load_85 : decode prog_7_method_13_code 85 = .ok (.iconst 0, 1) := by decide +kernel
theorem d_Mo_load_86 : decode prog_7_method_13_code 86 = .ok (.istore_n 2, 1) := by decide +kernel
theorem d_Mo_load_87 : decode prog_7_method_13_code 87 = .ok (.iinc 3 1, 3) := by decide +kernel
theorem d_Mo_load_90 : decode prog_7_method_13_code 90 = .ok (.goto (-36), 3) := by decide +kernel
theorem d_Mo_load_93 : decode prog_7_method_13_code 93 = .ok (.iload_n 2, 1) := by decide +kernel
theorem d_Mo_load_94 : decode prog_7_method_13_code 94 = .ok (.ifCond .eq 10, 3) := by decide +kernel
theorem d_Mo_load_97 : decode prog_7_method_13_code 97 = .ok (.aload_n 0, 1) := by decide +kernel
theorem d_Mo_load_98 : decode prog_7_method_13_code 98 = .ok (.iconst 0, 1) := by decide +kernel
theorem d_Mo_load_99 : decode prog_7_method_13_code 99 = .ok (.putfield 58, 3) := by decide +kernel
theorem d_Mo_load_102 : decode prog_7_method_13_code 102 = .ok (.iconst 1, 1) := by decide +kernel
theorem d_Mo_load_103 : decode prog_7_method_13_code 103 = .ok (.ireturn, 1) := by decide +kernel
theorem d_Mo_load_104 : decode prog_7_method_13_code 104 = .ok (.aload_n 0, 1) := by decide +kernel
theorem d_Mo_load_105 : decode prog_7_method_13_code 105 = .ok (.iload_n 1, 1) := by decide +kernel
theorem d_Mo_load_106 : decode prog_7_method_13_code 106 = .ok (.putfield 13, 3) := by decide +kernel
theorem d_Mo_load_109 : decode prog_7_method_13_code 109 = .ok (.iconst 0, 1) := by decide +kernel
theorem d_Mo_load_110 : decode prog_7_method_13_code 110 = .ok (.istore_n 3, 1) := by decide +kernel
theorem d_Mo_load_111 : decode prog_7_method_13_code 111 = .ok (.iload_n 3, 1) := by decide +kernel
theorem d_Mo_load_112 : decode prog_7_method_13_code 112 = .ok (.iload_n 1, 1) := by decide +kernel
theorem d_Mo_load_113 : decode prog_7_method_13_code 113 = .ok (.if_icmp .ge 21, 3) := by decide +kernel
theorem d_Mo_load_116 : decode prog_7_method_13_code 116 = .ok (.aload_n 0, 1) := by decide +kernel
theorem d_Mo_load_117 : decode prog_7_method_13_code 117 = .ok (.getfield 17, 3) := by decide +kernel
theorem d_Mo_load_120 : decode prog_7_method_13_code 120 = .ok (.iload_n 3, 1) := by decide +kernel
theorem d_Mo_load_121 : decode prog_7_method_13_code 121 = .ok (.aload_n 0, 1) := by decide +kernel
theorem d_Mo_load_122 : decode prog_7_method_13_code 122 = .ok (.getfield 30, 3) := by decide +kernel
theorem d_Mo_load_125 : decode prog_7_method_13_code 125 = .ok (.iload_n 3, 1) := by decide +kernel
theorem d_Mo_load_126 : decode prog_7_method_13_code 126 = .ok (.iaload, 1) := by decide +kernel
theorem d_Mo_load_127 : decode prog_7_method_13_code 127 = .ok (.iastore, 1) := by decide +kernel
theorem d_Mo_load_128 : decode prog_7_method_13_code 128 = .ok (.iinc 3 1, 3) := by decide +kernel
theorem d_Mo_load_131 : decode prog_7_method_13_code 131 = .ok (.goto (-20), 3) := by decide +kernel
theorem d_Mo_load_134 : decode prog_7_method_13_code 134 = .ok (.aload_n 0, 1) := by decide +kernel
theorem d_Mo_load_135 : decode prog_7_method_13_code 135 = .ok (.getfield 13, 3) := by decide +kernel
theorem d_Mo_load_138 : decode prog_7_method_13_code 138 = .ok (.ifCond .lt 7, 3) := by decide +kernel
theorem d_Mo_load_141 : decode prog_7_method_13_code 141 = .ok (.aload_n 0, 1) := by decide +kernel
theorem d_Mo_load_142 : decode prog_7_method_13_code 142 = .ok (.invokevirtual 72, 3) := by decide +kernel
theorem d_Mo_load_145 : decode prog_7_method_13_code 145 = .ok (.iconst 0, 1) := by decide +kernel
theorem d_Mo_load_146 : decode prog_7_method_13_code 146 = .ok (.ireturn, 1) := by decide +kernel
theorem d_Mo_guess_0 : decode prog_7_method_14_code 0 = .ok (.aload_n 0, 1) := by decide +kernel
theorem d_Mo_guess_1 : decode prog_7_method_14_code 1 = .ok (.aload_n 0, 1) := by decide +kernel
theorem d_Mo_guess_2 : decode prog_7_method_14_code 2 = .ok (.getfield 58, 3) := by decide +kernel
theorem d_Mo_guess_5 : decode prog_7_method_14_code 5 = .ok (.iconst 1, 1) := by decide +kernel
theorem d_Mo_guess_6 : decode prog_7_method_14_code 6 = .ok (.isub, 1) := by decide +kernel
theorem d_Mo_guess_7 : decode prog_7_method_14_code 7 = .ok (.putfield 13, 3) := by decide +kernel
theorem d_Mo_guess_10 : decode prog_7_method_14_code 10 = .ok (.iconst 0, 1) := by decide +kernel
theorem d_Mo_guess_11 : decode prog_7_method_14_code 11 = .ok (.istore_n 1, 1) := by decide +kernel
theorem d_Mo_guess_12 : decode prog_7_method_14_code 12 = .ok (.iconst 1, 1) := by decide +kernel
theorem d_Mo_guess_13 : decode prog_7_method_14_code 13 = .ok (.istore_n 2, 1) := by decide +kernel
theorem d_Mo_guess_14 : decode prog_7_method_14_code 14 = .ok (.aload_n 0, 1) := by decide +kernel
theorem d_Mo_guess_15 : decode prog_7_method_14_code 15 = .ok (.getfield 13, 3) := by decide +kernel
theorem d_Mo_guess_18 : decode prog_7_method_14_code 18 = .ok (.iconst 1, 1) := by decide +kernel
theorem d_Mo_guess_19 : decode prog_7_method_14_code 19 = .ok (.isub, 1) := by decide +kernel
theorem d_Mo_guess_20 : decode prog_7_method_14_code 20 = .ok (.istore_n 3, 1) := by decide +kernel
theorem d_Mo_guess_21 : decode prog_7_method_14_code 21 = .ok (.iload_n 3, 1) := by decide +kernel
theorem d_Mo_guess_22 : decode prog_7_method_14_code 22 = .ok (.ifCond .lt 48, 3) := by decide +kernel
theorem d_Mo_guess_25 : decode prog_7_method_14_code 25 = .ok (.aload_n 0, 1) := by decide +kernel
theorem d_Mo_guess_26 : decode prog_7_method_14_code 26 = .ok (.getfield 17, 3) := by decide +kernel
theorem d_Mo_guess_29 : decode prog_7_method_14_code 29 = .ok (.iload_n 3, 1) := by decide +kernel
theorem d_Mo_guess_30 : decode prog_7_method_14_code 30 = .ok (.aload_n 0, 1) := by decide +kernel
theorem d_Mo_guess_31 : decode prog_7_method_14_code 31 = .ok (.getfield 7, 3) := by decide +kernel
theorem d_Mo_guess_34 : decode prog_7_method_14_code 34 = .ok (.iload_n 1, 1) := by decide +kernel
theorem d_Mo_guess_35 : decode prog_7_method_14_code 35 = .ok (.iaload, 1) := by decide +kernel
theorem d_Mo_guess_36 : decode prog_7_method_14_code 36 = .ok (.iastore, 1) := by decide +kernel
theorem d_Mo_guess_37 : decode prog_7_method_14_code 37 = .ok (.iload_n 2, 1) := by decide +kernel
theorem d_Mo_guess_38 : decode prog_7_method_14_code 38 = .ok (.ifCond .eq 18, 3) := by decide +kernel
theorem d_Mo_guess_41 : decode prog_7_method_14_code 41 = .ok (.aload_n 0, 1) := by decide +kernel
theorem d_Mo_guess_42 : decode prog_7_method_14_code 42 = .ok (.getfield 7, 3) := by decide +kernel
theorem d_Mo_guess_45 : decode prog_7_method_14_code 45 = .ok (.iload_n 1, 1) := by decide +kernel
theorem d_Mo_guess_46 : decode prog_7_method_14_code 46 = .ok (.iaload, 1) := by decide +kernel
theorem d_Mo_guess_47 : decode prog_7_method_14_code 47 = .ok (.bipush 36, 2) := by decide +kernel
theorem d_Mo_guess_49 : decode prog_7_method_14_code 49 = .ok (.if_icmp .eq 7, 3) := by decide +kernel
theorem d_Mo_guess_52 : decode prog_7_method_14_code 52 = .ok (.iconst 1, 1) := by decide +kernel
theorem d_Mo_guess_53 : decode prog_7_method_14_code 53 = .ok (.goto 4, 3) := by decide +kernel
theorem d_Mo_guess_56 : decode prog_7_method_14_code 56 = .ok (.iconst 0, 1) := by decide +kernel
theorem d_Mo_guess_57 : decode prog_7_method_14_code 57 = .ok (.istore_n 2, 1) := by decide +kernel
theorem d_Mo_guess_58 : decode prog_7_method_14_code 58 = .ok (.aload_n 0, 1) := by decide +kernel
theorem d_Mo_guess_59 : decode prog_7_method_14_code 59 = .ok (.iload_n 1, 1) := by decide +kernel
theorem d_Mo_guess_60 : decode prog_7_method_14_code 60 = .ok (.invokevirtual 83, 3) := by decide +kernel
theorem d_Mo_guess_63 : decode prog_7_method_14_code 63 = .ok (.istore_n 1, 1) := by decide +kernel
theorem d_Mo_guess_64 : decode prog_7_method_14_code 64 = .ok (.iinc 3 (-1), 3) := by decide +kernel
theorem d_Mo_guess_67 : decode prog_7_method_14_code 67 = .ok (.goto (-46), 3) := by decide +kernel
theorem d_Mo_guess_70 : decode prog_7_method_14_code 70 = .ok (.iload_n 2, 1) := by decide +kernel
theorem d_Mo_guess_71 : decode prog_7_method_14_code 71 = .ok (.ifCond .eq 18, 3) := by decide +kernel
theorem d_Mo_guess_74 : decode prog_7_method_14_code 74 = .ok (.aload_n 0, 1) := by decide +kernel
theorem d_Mo_guess_75 : decode prog_7_method_14_code 75 = .ok (.getfield 7, 3) := by decide +kernel
theorem d_Mo_guess_78 : decode prog_7_method_14_code 78 = .ok (.iload_n 1, 1) := by decide +kernel
theorem d_Mo_guess_79 : decode prog_7_method_14_code 79 = .ok (.iaload, 1) := by decide +kernel
theorem d_Mo_guess_80 : decode prog_7_method_14_code 80 = .ok (.bipush 36, 2) := by decide +kernel
theorem d_Mo_guess_82 : decode prog_7_method_14_code 82 = .ok (.if_icmp .ne 7, 3) := by decide +kernel
theorem d_Mo_guess_85 : decode prog_7_method_14_code 85 = .ok (.iconst 1, 1) := by decide +kernel
theorem d_Mo_guess_86 : decode prog_7_method_14_code 86 = .ok (.goto 4, 3) := by decide +kernel
theorem d_Mo_guess_89 : decode prog_7_method_14_code 89 = .ok (.iconst 0, 1) := by decide +kernel
theorem d_Mo_guess_90 : decode prog_7_method_14_code 90 = .ok (.ireturn, 1) := by decide +kernel
theorem d_Mo_follow_0 : decode prog_7_method_12_code 0 = .ok (.aload_n 0, 1) := by decide +kernel
theorem d_Mo_follow_1 : decode prog_7_method_12_code 1 = .ok (.getfield 7, 3) := by decide +kernel
theorem d_Mo_follow_4 : decode prog_7_method_12_code 4 = .ok (.iload_n 1, 1) := by decide +kernel
theorem d_Mo_follow_5 : decode prog_7_method_12_code 5 = .ok (.iaload, 1) := by decide +kernel
theorem d_Mo_follow_6 : decode prog_7_method_12_code 6 = .ok (.invokestatic 65, 3) := by decide +kernel
theorem d_Mo_follow_9 : decode prog_7_method_12_code 9 = .ok (.istore_n 2, 1) := by decide +kernel
theorem d_Mo_follow_10 : decode prog_7_method_12_code 10 = .ok (.iconst 0, 1) := by decide +kernel
theorem d_Mo_follow_11 : decode prog_7_method_12_code 11 = .ok (.istore_n 3, 1) := by decide +kernel
theorem d_Mo_follow_12 : decode prog_7_method_12_code 12 = .ok (.iconst 0, 1) := by decide +kernel
theorem d_Mo_follow_13 : decode prog_7_method_12_code 13 = .ok (.istore 4, 2) := by decide +kernel
theorem d_Mo_follow_15 : decode prog_7_method_12_code 15 = .ok (.iload 4, 2) := by decide +kernel
theorem d_Mo_follow_17 : decode prog_7_method_12_code 17 = .ok (.aload_n 0, 1) := by decide +kernel
theorem d_Mo_follow_18 : decode prog_7_method_12_code 18 = .ok (.getfield 58, 3) := by decide +kernel
theorem d_Mo_follow_21 : decode prog_7_method_12_code 21 = .ok (.if_icmp .ge 47, 3) := by decide +kernel
theorem d_Mo_follow_24 : decode prog_7_method_12_code 24 = .ok (.aload_n 0, 1) := by decide +kernel
theorem d_Mo_follow_25 : decode prog_7_method_12_code 25 = .ok (.getfield 7, 3) := by decide +kernel
theorem d_Mo_follow_28 : decode prog_7_method_12_code 28 = .ok (.iload 4, 2) := by decide +kernel
theorem d_Mo_follow_30 : decode prog_7_method_12_code 30 = .ok (.iaload, 1) := by decide +kernel
theorem d_Mo_follow_31 : decode prog_7_method_12_code 31 = .ok (.invokestatic 65, 3) := by decide +kernel
theorem d_Mo_follow_34 : decode prog_7_method_12_code 34 = .ok (.istore 5, 2) := by decide +kernel
theorem d_Mo_follow_36 : decode prog_7_method_12_code 36 = .ok (.iload_n 3, 1) := by decide +kernel
theorem d_Mo_follow_37 : decode prog_7_method_12_code 37 = .ok (.iload 5, 2) := by decide +kernel
theorem d_Mo_follow_39 : decode prog_7_method_12_code 39 = .ok (.iload_n 2, 1) := by decide +kernel
theorem d_Mo_follow_40 : decode prog_7_method_12_code 40 = .ok (.if_icmp .lt 15, 3) := by decide +kernel
theorem d_Mo_follow_43 : decode prog_7_method_12_code 43 = .ok (.iload 5, 2) := by decide +kernel
theorem d_Mo_follow_45 : decode prog_7_method_12_code 45 = .ok (.iload_n 2, 1) := by decide +kernel
theorem d_Mo_follow_46 : decode prog_7_method_12_code 46 = .ok (.if_icmp .ne 13, 3) := by decide +kernel
theorem d_Mo_follow_49 : decode prog_7_method_12_code 49 = .ok (.iload 4, 2) := by decide +kernel
theorem d_Mo_follow_51 : decode prog_7_method_12_code 51 = .ok (.iload_n 1, 1) := by decide +kernel
theorem d_Mo_follow_52 : decode prog_7_method_12_code 52 = .ok (.if_icmp .ge 7, 3) := by decide +kernel
theorem d_Mo_follow_55 : decode prog_7_method_12_code 55 = .ok (.iconst 1, 1) := by decide +kernel
theorem d_Mo_follow_56 : decode prog_7_method_12_code 56 = .ok (.goto 4, 3) := by decide +kernel
theorem d_Mo_follow_59 : decode prog_7_method_12_code 59 = .ok (.iconst 0, 1) := by decide +kernel
theorem d_Mo_follow_60 : decode prog_7_method_12_code 60 = .ok (.iadd, 1) := by decide +kernel
theorem d_Mo_follow_61 : decode prog_7_method_12_code 61 = .ok (.istore_n 3, 1) := by decide +kernel
theorem d_Mo_follow_62 : decode prog_7_method_12_code 62 = .ok (.iinc 4 1, 3) := by decide +kernel
theorem d_Mo_follow_65 : decode prog_7_method_12_code 65 = .ok (.goto (-50), 3) := by decide +kernel
theorem d_Mo_follow_68 : decode prog_7_method_12_code 68 = .ok (.iload_n 3, 1) := by decide +kernel
theorem d_Mo_follow_69 : decode prog_7_method_12_code 69 = .ok (.ireturn, 1) := by decide +kernel
theorem d_Mo_size_0 : decode prog_7_method_15_code 0 = .ok (.aload_n 0, 1) := by decide +kernel
theorem d_Mo_size_1 : decode prog_7_method_15_code 1 = .ok (.getfield 13, 3) := by decide +kernel
theorem d_Mo_size_4 : decode prog_7_method_15_code 4 = .ok (.iconst 1, 1) := by decide +kernel
theorem d_Mo_size_5 : decode prog_7_method_15_code 5 = .ok (.iadd, 1) := by decide +kernel
theorem d_Mo_size_6 : decode prog_7_method_15_code 6 = .ok (.ireturn, 1) := by decide +kernel
theorem d_Mo_image_0 : decode prog_7_method_16_code 0 = .ok (.lconst 0, 1) := by decide +kernel
theorem d_Mo_image_1 : decode prog_7_method_16_code 1 = .ok (.lstore_n 2, 1) := by decide +kernel
theorem d_Mo_image_2 : decode prog_7_method_16_code 2 = .ok (.bipush 7, 2) := by decide +kernel
theorem d_Mo_image_4 : decode prog_7_method_16_code 4 = .ok (.istore 4, 2) := by decide +kernel
theorem d_Mo_image_6 : decode prog_7_method_16_code 6 = .ok (.iload 4, 2) := by decide +kernel
theorem d_Mo_image_8 : decode prog_7_method_16_code 8 = .ok (.ifCond .lt 56, 3) := by decide +kernel
theorem d_Mo_image_11 : decode prog_7_method_16_code 11 = .ok (.iload_n 1, 1) := by decide +kernel
theorem d_Mo_image_12 : decode prog_7_method_16_code 12 = .ok (.ifCond .lt 52, 3) := by decide +kernel
theorem d_Mo_image_15 : decode prog_7_method_16_code 15 = .ok (.iload_n 1, 1) := by decide +kernel
theorem d_Mo_image_16 : decode prog_7_method_16_code 16 = .ok (.bipush 13, 2) := by decide +kernel
theorem d_Mo_image_18 : decode prog_7_method_16_code 18 = .ok (.if_icmp .ge 46, 3) := by decide +kernel
theorem d_Mo_image_21 : decode prog_7_method_16_code 21 = .ok (.lload_n 2, 1) := by decide +kernel
theorem d_Mo_image_22 : decode prog_7_method_16_code 22 = .ok (.bipush 8, 2) := by decide +kernel
theorem d_Mo_image_24 : decode prog_7_method_16_code 24 = .ok (.lshl, 1) := by decide +kernel
theorem d_Mo_image_25 : decode prog_7_method_16_code 25 = .ok (.bipush 8, 2) := by decide +kernel
theorem d_Mo_image_27 : decode prog_7_method_16_code 27 = .ok (.iload_n 1, 1) := by decide +kernel
theorem d_Mo_image_28 : decode prog_7_method_16_code 28 = .ok (.imul, 1) := by decide +kernel
theorem d_Mo_image_29 : decode prog_7_method_16_code 29 = .ok (.iload 4, 2) := by decide +kernel
theorem d_Mo_image_31 : decode prog_7_method_16_code 31 = .ok (.iadd, 1) := by decide +kernel
theorem d_Mo_image_32 : decode prog_7_method_16_code 32 = .ok (.aload_n 0, 1) := by decide +kernel
theorem d_Mo_image_33 : decode prog_7_method_16_code 33 = .ok (.getfield 13, 3) := by decide +kernel
theorem d_Mo_image_36 : decode prog_7_method_16_code 36 = .ok (.if_icmp .gt 18, 3) := by decide +kernel
theorem d_Mo_image_39 : decode prog_7_method_16_code 39 = .ok (.aload_n 0, 1) := by decide +kernel
theorem d_Mo_image_40 : decode prog_7_method_16_code 40 = .ok (.getfield 23, 3) := by decide +kernel
theorem d_Mo_image_43 : decode prog_7_method_16_code 43 = .ok (.bipush 8, 2) := by decide +kernel
theorem d_Mo_image_45 : decode prog_7_method_16_code 45 = .ok (.iload_n 1, 1) := by decide +kernel
theorem d_Mo_image_46 : decode prog_7_method_16_code 46 = .ok (.imul, 1) := by decide +kernel
theorem d_Mo_image_47 : decode prog_7_method_16_code 47 = .ok (.iload 4, 2) := by decide +kernel
theorem d_Mo_image_49 : decode prog_7_method_16_code 49 = .ok (.iadd, 1) := by decide +kernel
theorem d_Mo_image_50 : decode prog_7_method_16_code 50 = .ok (.iaload, 1) := by decide +kernel
theorem d_Mo_image_51 : decode prog_7_method_16_code 51 = .ok (.goto 4, 3) := by decide +kernel
theorem d_Mo_image_54 : decode prog_7_method_16_code 54 = .ok (.iconst 0, 1) := by decide +kernel
theorem d_Mo_image_55 : decode prog_7_method_16_code 55 = .ok (.i2l, 1) := by decide +kernel
theorem d_Mo_image_56 : decode prog_7_method_16_code 56 = .ok (.lor, 1) := by decide +kernel
theorem d_Mo_image_57 : decode prog_7_method_16_code 57 = .ok (.lstore_n 2, 1) := by decide +kernel
theorem d_Mo_image_58 : decode prog_7_method_16_code 58 = .ok (.iinc 4 (-1), 3) := by decide +kernel
theorem d_Mo_image_61 : decode prog_7_method_16_code 61 = .ok (.goto (-55), 3) := by decide +kernel
theorem d_Mo_image_64 : decode prog_7_method_16_code 64 = .ok (.lload_n 2, 1) := by decide +kernel
theorem d_Mo_image_65 : decode prog_7_method_16_code 65 = .ok (.lreturn, 1) := by decide +kernel
theorem d_Mo_rank_0 : decode prog_7_method_17_code 0 = .ok (.iload_n 2, 1) := by decide +kernel
theorem d_Mo_rank_1 : decode prog_7_method_17_code 1 = .ok (.ifCond .lt 20, 3) := by decide +kernel
theorem d_Mo_rank_4 : decode prog_7_method_17_code 4 = .ok (.iload_n 2, 1) := by decide +kernel
theorem d_Mo_rank_5 : decode prog_7_method_17_code 5 = .ok (.aload_n 0, 1) := by decide +kernel
theorem d_Mo_rank_6 : decode prog_7_method_17_code 6 = .ok (.getfield 13, 3) := by decide +kernel
theorem d_Mo_rank_9 : decode prog_7_method_17_code 9 = .ok (.iconst 1, 1) := by decide +kernel
theorem d_Mo_rank_10 : decode prog_7_method_17_code 10 = .ok (.iadd, 1) := by decide +kernel
theorem d_Mo_rank_11 : decode prog_7_method_17_code 11 = .ok (.if_icmp .gt 10, 3) := by decide +kernel
theorem d_Mo_rank_14 : decode prog_7_method_17_code 14 = .ok (.iload_n 1, 1) := by decide +kernel
theorem d_Mo_rank_15 : decode prog_7_method_17_code 15 = .ok (.invokestatic 55, 3) := by decide +kernel
theorem d_Mo_rank_18 : decode prog_7_method_17_code 18 = .ok (.ifCond .ne 5, 3) := by decide +kernel
theorem d_Mo_rank_21 : decode prog_7_method_17_code 21 = .ok (.iconst (-1), 1) := by decide +kernel
theorem d_Mo_rank_22 : decode prog_7_method_17_code 22 = .ok (.ireturn, 1) := by decide +kernel
theorem d_Mo_rank_23 : decode prog_7_method_17_code 23 = .ok (.iconst 0, 1) := by decide +kernel
theorem d_Mo_rank_24 : decode prog_7_method_17_code 24 = .ok (.istore_n 3, 1) := by decide +kernel
theorem d_Mo_rank_25 : decode prog_7_method_17_code 25 = .ok (.iconst 0, 1) := by decide +kernel
theorem d_Mo_rank_26 : decode prog_7_method_17_code 26 = .ok (.istore 4, 2) := by decide +kernel
theorem d_Mo_rank_28 : decode prog_7_method_17_code 28 = .ok (.iload 4, 2) := by decide +kernel
theorem d_Mo_rank_30 : decode prog_7_method_17_code 30 = .ok (.iload_n 2, 1) := by decide +kernel
theorem d_Mo_rank_31 : decode prog_7_method_17_code 31 = .ok (.if_icmp .ge 28, 3) := by decide +kernel
theorem d_Mo_rank_34 : decode prog_7_method_17_code 34 = .ok (.iload_n 3, 1) := by decide +kernel
theorem d_Mo_rank_35 : decode prog_7_method_17_code 35 = .ok (.aload_n 0, 1) := by decide +kernel
theorem d_Mo_rank_36 : decode prog_7_method_17_code 36 = .ok (.getfield 23, 3) := by decide +kernel
theorem d_Mo_rank_39 : decode prog_7_method_17_code 39 = .ok (.iload 4, 2) := by decide +kernel
theorem d_Mo_rank_41 : decode prog_7_method_17_code 41 = .ok (.iaload, 1) := by decide +kernel
theorem d_Mo_rank_42 : decode prog_7_method_17_code 42 = .ok (.iload_n 1, 1) := by decide +kernel
theorem d_Mo_rank_43 : decode prog_7_method_17_code 43 = .ok (.if_icmp .ne 7, 3) := by decide +kernel
theorem d_Mo_rank_46 : decode prog_7_method_17_code 46 = .ok (.iconst 1, 1) := by decide +kernel
theorem d_Mo_rank_47 : decode prog_7_method_17_code 47 = .ok (.goto 4, 3) := by decide +kernel
theorem d_Mo_rank_50 : decode prog_7_method_17_code 50 = .ok (.iconst 0, 1) := by decide +kernel
theorem d_Mo_rank_51 : decode prog_7_method_17_code 51 = .ok (.iadd, 1) := by decide +kernel
theorem d_Mo_rank_52 : decode prog_7_method_17_code 52 = .ok (.istore_n 3, 1) := by decide +kernel
theorem d_Mo_rank_53 : decode prog_7_method_17_code 53 = .ok (.iinc 4 1, 3) := by decide +kernel
theorem d_Mo_rank_56 : decode prog_7_method_17_code 56 = .ok (.goto (-28), 3) := by decide +kernel
theorem d_Mo_rank_59 : decode prog_7_method_17_code 59 = .ok (.iload_n 3, 1) := by decide +kernel
theorem d_Mo_rank_60 : decode prog_7_method_17_code 60 = .ok (.ireturn, 1) := by decide +kernel
theorem d_Mo_suffix_0 : decode prog_7_method_18_code 0 = .ok (.iload_n 1, 1) := by decide +kernel
theorem d_Mo_suffix_1 : decode prog_7_method_18_code 1 = .ok (.ifCond .lt 11, 3) := by decide +kernel
theorem d_Mo_suffix_4 : decode prog_7_method_18_code 4 = .ok (.iload_n 1, 1) := by decide +kernel
theorem d_Mo_suffix_5 : decode prog_7_method_18_code 5 = .ok (.aload_n 0, 1) := by decide +kernel
theorem d_Mo_suffix_6 : decode prog_7_method_18_code 6 = .ok (.getfield 13, 3) := by decide +kernel
theorem d_Mo_suffix_9 : decode prog_7_method_18_code 9 = .ok (.if_icmp .le 7, 3) := by decide +kernel
theorem d_Mo_suffix_12 : decode prog_7_method_18_code 12 = .ok (.iconst (-1), 1) := by decide +kernel
theorem d_Mo_suffix_13 : decode prog_7_method_18_code 13 = .ok (.goto 9, 3) := by decide +kernel
theorem d_Mo_suffix_16 : decode prog_7_method_18_code 16 = .ok (.aload_n 0, 1) := by decide +kernel
theorem d_Mo_suffix_17 : decode prog_7_method_18_code 17 = .ok (.getfield 20, 3) := by decide +kernel
theorem d_Mo_suffix_20 : decode prog_7_method_18_code 20 = .ok (.iload_n 1, 1) := by decide +kernel
theorem d_Mo_suffix_21 : decode prog_7_method_18_code 21 = .ok (.iaload, 1) := by decide +kernel
theorem d_Mo_suffix_22 : decode prog_7_method_18_code 22 = .ok (.ireturn, 1) := by decide +kernel
theorem d_Mo_walk_0 : decode prog_7_method_19_code 0 = .ok (.iload_n 1, 1) := by decide +kernel
theorem d_Mo_walk_1 : decode prog_7_method_19_code 1 = .ok (.ifCond .lt 11, 3) := by decide +kernel
theorem d_Mo_walk_4 : decode prog_7_method_19_code 4 = .ok (.iload_n 1, 1) := by decide +kernel
theorem d_Mo_walk_5 : decode prog_7_method_19_code 5 = .ok (.aload_n 0, 1) := by decide +kernel
theorem d_Mo_walk_6 : decode prog_7_method_19_code 6 = .ok (.getfield 13, 3) := by decide +kernel
theorem d_Mo_walk_9 : decode prog_7_method_19_code 9 = .ok (.if_icmp .le 7, 3) := by decide +kernel
theorem d_Mo_walk_12 : decode prog_7_method_19_code 12 = .ok (.iconst (-1), 1) := by decide +kernel
theorem d_Mo_walk_13 : decode prog_7_method_19_code 13 = .ok (.goto 14, 3) := by decide +kernel
theorem d_Mo_walk_16 : decode prog_7_method_19_code 16 = .ok (.aload_n 0, 1) := by decide +kernel
theorem d_Mo_walk_17 : decode prog_7_method_19_code 17 = .ok (.getfield 20, 3) := by decide +kernel
theorem d_Mo_walk_20 : decode prog_7_method_19_code 20 = .ok (.iload_n 1, 1) := by decide +kernel
theorem d_Mo_walk_21 : decode prog_7_method_19_code 21 = .ok (.iaload, 1) := by decide +kernel
theorem d_Mo_walk_22 : decode prog_7_method_19_code 22 = .ok (.aload_n 0, 1) := by decide +kernel
theorem d_Mo_walk_23 : decode prog_7_method_19_code 23 = .ok (.getfield 42, 3) := by decide +kernel
theorem d_Mo_walk_26 : decode prog_7_method_19_code 26 = .ok (.irem, 1) := by decide +kernel
theorem d_Mo_walk_27 : decode prog_7_method_19_code 27 = .ok (.ireturn, 1) := by decide +kernel
theorem d_Mo_length_0 : decode prog_7_method_23_code 0 = .ok (.aload_n 0, 1) := by decide +kernel
theorem d_Mo_length_1 : decode prog_7_method_23_code 1 = .ok (.iload_n 1, 1) := by decide +kernel
theorem d_Mo_length_2 : decode prog_7_method_23_code 2 = .ok (.invokevirtual 86, 3) := by decide +kernel
theorem d_Mo_length_5 : decode prog_7_method_23_code 5 = .ok (.istore_n 2, 1) := by decide +kernel
theorem d_Mo_length_6 : decode prog_7_method_23_code 6 = .ok (.iload_n 2, 1) := by decide +kernel
theorem d_Mo_length_7 : decode prog_7_method_23_code 7 = .ok (.ifCond .ge 7, 3) := by decide +kernel
theorem d_Mo_length_10 : decode prog_7_method_23_code 10 = .ok (.iconst (-1), 1) := by decide +kernel
theorem d_Mo_length_11 : decode prog_7_method_23_code 11 = .ok (.goto 10, 3) := by decide +kernel
theorem d_Mo_length_14 : decode prog_7_method_23_code 14 = .ok (.aload_n 0, 1) := by decide +kernel
theorem d_Mo_length_15 : decode prog_7_method_23_code 15 = .ok (.iload_n 2, 1) := by decide +kernel
theorem d_Mo_length_16 : decode prog_7_method_23_code 16 = .ok (.invokevirtual 89, 3) := by decide +kernel
theorem d_Mo_length_19 : decode prog_7_method_23_code 19 = .ok (.iload_n 2, 1) := by decide +kernel
theorem d_Mo_length_20 : decode prog_7_method_23_code 20 = .ok (.isub, 1) := by decide +kernel
theorem d_Mo_length_21 : decode prog_7_method_23_code 21 = .ok (.ireturn, 1) := by decide +kernel
theorem d_Mo_beginning_0 : decode prog_7_method_21_code 0 = .ok (.iload_n 1, 1) := by decide +kernel
theorem d_Mo_beginning_1 : decode prog_7_method_21_code 1 = .ok (.ifCond .lt 11, 3) := by decide +kernel
theorem d_Mo_beginning_4 : decode prog_7_method_21_code 4 = .ok (.iload_n 1, 1) := by decide +kernel
theorem d_Mo_beginning_5 : decode prog_7_method_21_code 5 = .ok (.aload_n 0, 1) := by decide +kernel
theorem d_Mo_beginning_6 : decode prog_7_method_21_code 6 = .ok (.invokevirtual 75, 3) := by decide +kernel
theorem d_Mo_beginning_9 : decode prog_7_method_21_code 9 = .ok (.if_icmp .lt 5, 3) := by decide +kernel
theorem d_Mo_beginning_12 : decode prog_7_method_21_code 12 = .ok (.iconst (-1), 1) := by decide +kernel
theorem d_Mo_beginning_13 : decode prog_7_method_21_code 13 = .ok (.ireturn, 1) := by decide +kernel
theorem d_Mo_beginning_14 : decode prog_7_method_21_code 14 = .ok (.iconst 0, 1) := by decide +kernel
theorem d_Mo_beginning_15 : decode prog_7_method_21_code 15 = .ok (.istore_n 2, 1) := by decide +kernel
theorem d_Mo_beginning_16 : decode prog_7_method_21_code 16 = .ok (.iload_n 1, 1) := by decide +kernel
theorem d_Mo_beginning_17 : decode prog_7_method_21_code 17 = .ok (.istore_n 3, 1) := by decide +kernel
theorem d_Mo_beginning_18 : decode prog_7_method_21_code 18 = .ok (.iload_n 3, 1) := by decide +kernel
theorem d_Mo_beginning_19 : decode prog_7_method_21_code 19 = .ok (.ifCond .le 28, 3) := by decide +kernel
theorem d_Mo_beginning_22 : decode prog_7_method_21_code 22 = .ok (.iload_n 3, 1) := by decide +kernel
theorem d_Mo_beginning_23 : decode prog_7_method_21_code 23 = .ok (.aload_n 0, 1) := by decide +kernel
theorem d_Mo_beginning_24 : decode prog_7_method_21_code 24 = .ok (.getfield 17, 3) := by decide +kernel
theorem d_Mo_beginning_27 : decode prog_7_method_21_code 27 = .ok (.iload_n 2, 1) := by decide +kernel
theorem d_Mo_beginning_28 : decode prog_7_method_21_code 28 = .ok (.iaload, 1) := by decide +kernel
theorem d_Mo_beginning_29 : decode prog_7_method_21_code 29 = .ok (.bipush 124, 2) := by decide +kernel
theorem d_Mo_beginning_31 : decode prog_7_method_21_code 31 = .ok (.if_icmp .ne 7, 3) := by decide +kernel
theorem d_Mo_beginning_34 : decode prog_7_method_21_code 34 = .ok (.iconst 1, 1) := by decide +kernel
theorem d_Mo_beginning_35 : decode prog_7_method_21_code 35 = .ok (.goto 4, 3) := by decide +kernel
theorem d_Mo_beginning_38 : decode prog_7_method_21_code 38 = .ok (.iconst 0, 1) := by decide +kernel
theorem d_Mo_beginning_39 : decode prog_7_method_21_code 39 = .ok (.isub, 1) := by decide +kernel
theorem d_Mo_beginning_40 : decode prog_7_method_21_code 40 = .ok (.istore_n 3, 1) := by decide +kernel
theorem d_Mo_beginning_41 : decode prog_7_method_21_code 41 = .ok (.iinc 2 1, 3) := by decide +kernel
theorem d_Mo_beginning_44 : decode prog_7_method_21_code 44 = .ok (.goto (-26), 3) := by decide +kernel
theorem d_Mo_beginning_47 : decode prog_7_method_21_code 47 = .ok (.iload_n 2, 1) := by decide +kernel
theorem d_Mo_beginning_48 : decode prog_7_method_21_code 48 = .ok (.ireturn, 1) := by decide +kernel
theorem d_Mo_end_0 : decode prog_7_method_22_code 0 = .ok (.iload_n 1, 1) := by decide +kernel
theorem d_Mo_end_1 : decode prog_7_method_22_code 1 = .ok (.istore_n 2, 1) := by decide +kernel
theorem d_Mo_end_2 : decode prog_7_method_22_code 2 = .ok (.iload_n 2, 1) := by decide +kernel
theorem d_Mo_end_3 : decode prog_7_method_22_code 3 = .ok (.aload_n 0, 1) := by decide +kernel
theorem d_Mo_end_4 : decode prog_7_method_22_code 4 = .ok (.getfield 13, 3) := by decide +kernel
theorem d_Mo_end_7 : decode prog_7_method_22_code 7 = .ok (.if_icmp .ge 20, 3) := by decide +kernel
theorem d_Mo_end_10 : decode prog_7_method_22_code 10 = .ok (.aload_n 0, 1) := by decide +kernel
theorem d_Mo_end_11 : decode prog_7_method_22_code 11 = .ok (.getfield 17, 3) := by decide +kernel
theorem d_Mo_end_14 : decode prog_7_method_22_code 14 = .ok (.iload_n 2, 1) := by decide +kernel
theorem d_Mo_end_15 : decode prog_7_method_22_code 15 = .ok (.iaload, 1) := by decide +kernel
theorem d_Mo_end_16 : decode prog_7_method_22_code 16 = .ok (.bipush 124, 2) := by decide +kernel
theorem d_Mo_end_18 : decode prog_7_method_22_code 18 = .ok (.if_icmp .eq 9, 3) := by decide +kernel
theorem d_Mo_end_21 : decode prog_7_method_22_code 21 = .ok (.iinc 2 1, 3) := by decide +kernel
theorem d_Mo_end_24 : decode prog_7_method_22_code 24 = .ok (.goto (-22), 3) := by decide +kernel
theorem d_Mo_end_27 : decode prog_7_method_22_code 27 = .ok (.iload_n 2, 1) := by decide +kernel
theorem d_Mo_end_28 : decode prog_7_method_22_code 28 = .ok (.ireturn, 1) := by decide +kernel
theorem d_Mo_extract_0 : decode prog_7_method_24_code 0 = .ok (.aload_n 0, 1) := by decide +kernel
theorem d_Mo_extract_1 : decode prog_7_method_24_code 1 = .ok (.iload_n 1, 1) := by decide +kernel
theorem d_Mo_extract_2 : decode prog_7_method_24_code 2 = .ok (.invokevirtual 92, 3) := by decide +kernel
theorem d_Mo_extract_5 : decode prog_7_method_24_code 5 = .ok (.istore_n 3, 1) := by decide +kernel
theorem d_Mo_extract_6 : decode prog_7_method_24_code 6 = .ok (.lconst 0, 1) := by decide +kernel
theorem d_Mo_extract_7 : decode prog_7_method_24_code 7 = .ok (.lstore 4, 2) := by decide +kernel
theorem d_Mo_extract_9 : decode prog_7_method_24_code 9 = .ok (.bipush 7, 2) := by decide +kernel
theorem d_Mo_extract_11 : decode prog_7_method_24_code 11 = .ok (.istore 6, 2) := by decide +kernel
theorem d_Mo_extract_13 : decode prog_7_method_24_code 13 = .ok (.iload 6, 2) := by decide +kernel
theorem d_Mo_extract_15 : decode prog_7_method_24_code 15 = .ok (.ifCond .lt 54, 3) := by decide +kernel
theorem d_Mo_extract_18 : decode prog_7_method_24_code 18 = .ok (.iload_n 2, 1) := by decide +kernel
theorem d_Mo_extract_19 : decode prog_7_method_24_code 19 = .ok (.ifCond .lt 50, 3) := by decide +kernel
theorem d_Mo_extract_22 : decode prog_7_method_24_code 22 = .ok (.iload_n 2, 1) := by decide +kernel
theorem d_Mo_extract_23 : decode prog_7_method_24_code 23 = .ok (.iload_n 3, 1) := by decide +kernel
theorem d_Mo_extract_24 : decode prog_7_method_24_code 24 = .ok (.if_icmp .ge 45, 3) := by decide +kernel
theorem d_Mo_extract_27 : decode prog_7_method_24_code 27 = .ok (.lload 4, 2) := by decide +kernel
theorem d_Mo_extract_29 : decode prog_7_method_24_code 29 = .ok (.bipush 8, 2) := by decide +kernel
theorem d_Mo_extract_31 : decode prog_7_method_24_code 31 = .ok (.lshl, 1) := by decide +kernel
theorem d_Mo_extract_32 : decode prog_7_method_24_code 32 = .ok (.iload_n 2, 1) := by decide +kernel
theorem d_Mo_extract_33 : decode prog_7_method_24_code 33 = .ok (.iload 6, 2) := by decide +kernel
theorem d_Mo_extract_35 : decode prog_7_method_24_code 35 = .ok (.iadd, 1) := by decide +kernel
theorem d_Mo_extract_36 : decode prog_7_method_24_code 36 = .ok (.iload_n 3, 1) := by decide +kernel
theorem d_Mo_extract_37 : decode prog_7_method_24_code 37 = .ok (.if_icmp .ge 21, 3) := by decide +kernel
theorem d_Mo_extract_40 : decode prog_7_method_24_code 40 = .ok (.aload_n 0, 1) := by decide +kernel
theorem d_Mo_extract_41 : decode prog_7_method_24_code 41 = .ok (.getfield 17, 3) := by decide +kernel
theorem d_Mo_extract_44 : decode prog_7_method_24_code 44 = .ok (.aload_n 0, 1) := by decide +kernel
theorem d_Mo_extract_45 : decode prog_7_method_24_code 45 = .ok (.iload_n 1, 1) := by decide +kernel
theorem d_Mo_extract_46 : decode prog_7_method_24_code 46 = .ok (.invokevirtual 86, 3) := by decide +kernel
theorem d_Mo_extract_49 : decode prog_7_method_24_code 49 = .ok (.iload_n 2, 1) := by decide +kernel
theorem d_Mo_extract_50 : decode prog_7_method_24_code 50 = .ok (.iadd, 1) := by decide +kernel
theorem d_Mo_extract_51 : decode prog_7_method_24_code 51 = .ok (.iload 6, 2) := by decide +kernel
theorem d_Mo_extract_53 : decode prog_7_method_24_code 53 = .ok (.iadd, 1) := by decide +kernel
theorem d_Mo_extract_54 : decode prog_7_method_24_code 54 = .ok (.iaload, 1) := by decide +kernel
theorem d_Mo_extract_55 : decode prog_7_method_24_code 55 = .ok (.goto 4, 3) := by decide +kernel
theorem d_Mo_extract_58 : decode prog_7_method_24_code 58 = .ok (.iconst 0, 1) := by decide +kernel
theorem d_Mo_extract_59 : decode prog_7_method_24_code 59 = .ok (.i2l, 1) := by decide +kernel
theorem d_Mo_extract_60 : decode prog_7_method_24_code 60 = .ok (.lor, 1) := by decide +kernel
theorem d_Mo_extract_61 : decode prog_7_method_24_code 61 = .ok (.lstore 4, 2) := by decide +kernel
theorem d_Mo_extract_63 : decode prog_7_method_24_code 63 = .ok (.iinc 6 (-1), 3) := by decide +kernel
theorem d_Mo_extract_66 : decode prog_7_method_24_code 66 = .ok (.goto (-53), 3) := by decide +kernel
theorem d_Mo_extract_69 : decode prog_7_method_24_code 69 = .ok (.lload 4, 2) := by decide +kernel
theorem d_Mo_extract_71 : decode prog_7_method_24_code 71 = .ok (.lreturn, 1) := by decide +kernel
theorem d_Mo_count_0 : decode prog_7_method_28_code 0 = .ok (.aload_n 0, 1) := by decide +kernel
theorem d_Mo_count_1 : decode prog_7_method_28_code 1 = .ok (.lload_n 1, 1) := by decide +kernel
theorem d_Mo_count_2 : decode prog_7_method_28_code 2 = .ok (.invokevirtual 101, 3) := by decide +kernel
theorem d_Mo_count_5 : decode prog_7_method_28_code 5 = .ok (.ifCond .eq 11, 3) := by decide +kernel
theorem d_Mo_count_8 : decode prog_7_method_28_code 8 = .ok (.aload_n 0, 1) := by decide +kernel
theorem d_Mo_count_9 : decode prog_7_method_28_code 9 = .ok (.iconst (-1), 1) := by decide +kernel
theorem d_Mo_count_10 : decode prog_7_method_28_code 10 = .ok (.invokevirtual 105, 3) := by decide +kernel
theorem d_Mo_count_13 : decode prog_7_method_28_code 13 = .ok (.goto 4, 3) := by decide +kernel
theorem d_Mo_count_16 : decode prog_7_method_28_code 16 = .ok (.iconst (-1), 1) := by decide +kernel
theorem d_Mo_count_17 : decode prog_7_method_28_code 17 = .ok (.ireturn, 1) := by decide +kernel
theorem d_Mo_read_0 : decode prog_7_method_25_code 0 = .ok (.aload_n 0, 1) := by decide +kernel
theorem d_Mo_read_1 : decode prog_7_method_25_code 1 = .ok (.iconst 0, 1) := by decide +kernel
theorem d_Mo_read_2 : decode prog_7_method_25_code 2 = .ok (.putfield 95, 3) := by decide +kernel
theorem d_Mo_read_5 : decode prog_7_method_25_code 5 = .ok (.aload_n 0, 1) := by decide +kernel
