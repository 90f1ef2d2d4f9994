theorem d_Mo_read_6 : decode prog_7_method_25_code 6 = .ok (.getfield 95, 3) := by decide +kernel
theorem d_Mo_read_9 : decode prog_7_method_25_code 9 = .ok (.bipush 8, 2) := by decide +kernel
theorem d_Mo_read_11 : decode prog_7_method_25_code 11 = .ok (.if_icmp .ge 47, 3) := by decide +kernel
theorem d_Mo_read_14 : decode prog_7_method_25_code 14 = .ok (.lload_n 1, 1) := by decide +kernel
theorem d_Mo_read_15 : decode prog_7_method_25_code 15 = .ok (.aload_n 0, 1) := by decide +kernel
theorem d_Mo_read_16 : decode prog_7_method_25_code 16 = .ok (.getfield 95, 3) := by decide +kernel
theorem d_Mo_read_19 : decode prog_7_method_25_code 19 = .ok (.invokestatic 51, 3) := by decide +kernel
theorem d_Mo_read_22 : decode prog_7_method_25_code 22 = .ok (.invokestatic 45, 3) := by decide +kernel
theorem d_Mo_read_25 : decode prog_7_method_25_code 25 = .ok (.ifCond .eq 33, 3) := by decide +kernel
theorem d_Mo_read_28 : decode prog_7_method_25_code 28 = .ok (.aload_n 0, 1) := by decide +kernel
theorem d_Mo_read_29 : decode prog_7_method_25_code 29 = .ok (.getfield 33, 3) := by decide +kernel
theorem d_Mo_read_32 : decode prog_7_method_25_code 32 = .ok (.aload_n 0, 1) := by decide +kernel
theorem d_Mo_read_33 : decode prog_7_method_25_code 33 = .ok (.getfield 95, 3) := by decide +kernel
theorem d_Mo_read_36 : decode prog_7_method_25_code 36 = .ok (.lload_n 1, 1) := by decide +kernel
theorem d_Mo_read_37 : decode prog_7_method_25_code 37 = .ok (.aload_n 0, 1) := by decide +kernel
theorem d_Mo_read_38 : decode prog_7_method_25_code 38 = .ok (.getfield 95, 3) := by decide +kernel
theorem d_Mo_read_41 : decode prog_7_method_25_code 41 = .ok (.invokestatic 51, 3) := by decide +kernel
theorem d_Mo_read_44 : decode prog_7_method_25_code 44 = .ok (.iastore, 1) := by decide +kernel
theorem d_Mo_read_45 : decode prog_7_method_25_code 45 = .ok (.aload_n 0, 1) := by decide +kernel
theorem d_Mo_read_46 : decode prog_7_method_25_code 46 = .ok (.dup, 1) := by decide +kernel
theorem d_Mo_read_47 : decode prog_7_method_25_code 47 = .ok (.getfield 95, 3) := by decide +kernel
theorem d_Mo_read_50 : decode prog_7_method_25_code 50 = .ok (.iconst 1, 1) := by decide +kernel
theorem d_Mo_read_51 : decode prog_7_method_25_code 51 = .ok (.iadd, 1) := by decide +kernel
theorem d_Mo_read_52 : decode prog_7_method_25_code 52 = .ok (.putfield 95, 3) := by decide +kernel
theorem d_Mo_read_55 : decode prog_7_method_25_code 55 = .ok (.goto (-50), 3) := by decide +kernel
theorem d_Mo_read_58 : decode prog_7_method_25_code 58 = .ok (.aload_n 0, 1) := by decide +kernel
theorem d_Mo_read_59 : decode prog_7_method_25_code 59 = .ok (.getfield 95, 3) := by decide +kernel
theorem d_Mo_read_62 : decode prog_7_method_25_code 62 = .ok (.istore_n 3, 1) := by decide +kernel
theorem d_Mo_read_63 : decode prog_7_method_25_code 63 = .ok (.iload_n 3, 1) := by decide +kernel
theorem d_Mo_read_64 : decode prog_7_method_25_code 64 = .ok (.bipush 8, 2) := by decide +kernel
theorem d_Mo_read_66 : decode prog_7_method_25_code 66 = .ok (.if_icmp .ge 19, 3) := by decide +kernel
theorem d_Mo_read_69 : decode prog_7_method_25_code 69 = .ok (.lload_n 1, 1) := by decide +kernel
theorem d_Mo_read_70 : decode prog_7_method_25_code 70 = .ok (.iload_n 3, 1) := by decide +kernel
theorem d_Mo_read_71 : decode prog_7_method_25_code 71 = .ok (.invokestatic 51, 3) := by decide +kernel
theorem d_Mo_read_74 : decode prog_7_method_25_code 74 = .ok (.ifCond .eq 5, 3) := by decide +kernel
theorem d_Mo_read_77 : decode prog_7_method_25_code 77 = .ok (.iconst 0, 1) := by decide +kernel
theorem d_Mo_read_78 : decode prog_7_method_25_code 78 = .ok (.ireturn, 1) := by decide +kernel
theorem d_Mo_read_79 : decode prog_7_method_25_code 79 = .ok (.iinc 3 1, 3) := by decide +kernel
theorem d_Mo_read_82 : decode prog_7_method_25_code 82 = .ok (.goto (-19), 3) := by decide +kernel
theorem d_Mo_read_85 : decode prog_7_method_25_code 85 = .ok (.aload_n 0, 1) := by decide +kernel
theorem d_Mo_read_86 : decode prog_7_method_25_code 86 = .ok (.getfield 95, 3) := by decide +kernel
theorem d_Mo_read_89 : decode prog_7_method_25_code 89 = .ok (.ifCond .le 7, 3) := by decide +kernel
theorem d_Mo_read_92 : decode prog_7_method_25_code 92 = .ok (.iconst 1, 1) := by decide +kernel
theorem d_Mo_read_93 : decode prog_7_method_25_code 93 = .ok (.goto 4, 3) := by decide +kernel
theorem d_Mo_read_96 : decode prog_7_method_25_code 96 = .ok (.iconst 0, 1) := by decide +kernel
theorem d_Mo_read_97 : decode prog_7_method_25_code 97 = .ok (.ireturn, 1) := by decide +kernel
theorem d_Mo_search_0 : decode prog_7_method_27_code 0 = .ok (.iconst 0, 1) := by decide +kernel
theorem d_Mo_search_1 : decode prog_7_method_27_code 1 = .ok (.istore_n 2, 1) := by decide +kernel
theorem d_Mo_search_2 : decode prog_7_method_27_code 2 = .ok (.iconst 0, 1) := by decide +kernel
theorem d_Mo_search_3 : decode prog_7_method_27_code 3 = .ok (.istore_n 3, 1) := by decide +kernel
theorem d_Mo_search_4 : decode prog_7_method_27_code 4 = .ok (.iload_n 3, 1) := by decide +kernel
theorem d_Mo_search_5 : decode prog_7_method_27_code 5 = .ok (.aload_n 0, 1) := by decide +kernel
theorem d_Mo_search_6 : decode prog_7_method_27_code 6 = .ok (.getfield 13, 3) := by decide +kernel
theorem d_Mo_search_9 : decode prog_7_method_27_code 9 = .ok (.if_icmp .ge 27, 3) := by decide +kernel
theorem d_Mo_search_12 : decode prog_7_method_27_code 12 = .ok (.aload_n 0, 1) := by decide +kernel
theorem d_Mo_search_13 : decode prog_7_method_27_code 13 = .ok (.iload_n 3, 1) := by decide +kernel
theorem d_Mo_search_14 : decode prog_7_method_27_code 14 = .ok (.invokevirtual 98, 3) := by decide +kernel
theorem d_Mo_search_17 : decode prog_7_method_27_code 17 = .ok (.ifCond .eq 13, 3) := by decide +kernel
theorem d_Mo_search_20 : decode prog_7_method_27_code 20 = .ok (.iload_n 2, 1) := by decide +kernel
theorem d_Mo_search_21 : decode prog_7_method_27_code 21 = .ok (.iload_n 1, 1) := by decide +kernel
theorem d_Mo_search_22 : decode prog_7_method_27_code 22 = .ok (.if_icmp .ne 5, 3) := by decide +kernel
theorem d_Mo_search_25 : decode prog_7_method_27_code 25 = .ok (.iload_n 3, 1) := by decide +kernel
theorem d_Mo_search_26 : decode prog_7_method_27_code 26 = .ok (.ireturn, 1) := by decide +kernel
theorem d_Mo_search_27 : decode prog_7_method_27_code 27 = .ok (.iinc 2 1, 3) := by decide +kernel
theorem d_Mo_search_30 : decode prog_7_method_27_code 30 = .ok (.iinc 3 1, 3) := by decide +kernel
theorem d_Mo_search_33 : decode prog_7_method_27_code 33 = .ok (.goto (-29), 3) := by decide +kernel
theorem d_Mo_search_36 : decode prog_7_method_27_code 36 = .ok (.iload_n 1, 1) := by decide +kernel
theorem d_Mo_search_37 : decode prog_7_method_27_code 37 = .ok (.ifCond .ge 7, 3) := by decide +kernel
theorem d_Mo_search_40 : decode prog_7_method_27_code 40 = .ok (.iload_n 2, 1) := by decide +kernel
theorem d_Mo_search_41 : decode prog_7_method_27_code 41 = .ok (.goto 4, 3) := by decide +kernel
theorem d_Mo_search_44 : decode prog_7_method_27_code 44 = .ok (.iconst (-1), 1) := by decide +kernel
theorem d_Mo_search_45 : decode prog_7_method_27_code 45 = .ok (.ireturn, 1) := by decide +kernel
theorem d_Mo_occurs_0 : decode prog_7_method_26_code 0 = .ok (.iload_n 1, 1) := by decide +kernel
theorem d_Mo_occurs_1 : decode prog_7_method_26_code 1 = .ok (.aload_n 0, 1) := by decide +kernel
theorem d_Mo_occurs_2 : decode prog_7_method_26_code 2 = .ok (.getfield 95, 3) := by decide +kernel
theorem d_Mo_occurs_5 : decode prog_7_method_26_code 5 = .ok (.iadd, 1) := by decide +kernel
theorem d_Mo_occurs_6 : decode prog_7_method_26_code 6 = .ok (.aload_n 0, 1) := by decide +kernel
theorem d_Mo_occurs_7 : decode prog_7_method_26_code 7 = .ok (.getfield 13, 3) := by decide +kernel
theorem d_Mo_occurs_10 : decode prog_7_method_26_code 10 = .ok (.if_icmp .gt 7, 3) := by decide +kernel
theorem d_Mo_occurs_13 : decode prog_7_method_26_code 13 = .ok (.iconst 1, 1) := by decide +kernel
theorem d_Mo_occurs_14 : decode prog_7_method_26_code 14 = .ok (.goto 4, 3) := by decide +kernel
theorem d_Mo_occurs_17 : decode prog_7_method_26_code 17 = .ok (.iconst 0, 1) := by decide +kernel
theorem d_Mo_occurs_18 : decode prog_7_method_26_code 18 = .ok (.istore_n 2, 1) := by decide +kernel
theorem d_Mo_occurs_19 : decode prog_7_method_26_code 19 = .ok (.iconst 0, 1) := by decide +kernel
theorem d_Mo_occurs_20 : decode prog_7_method_26_code 20 = .ok (.istore_n 3, 1) := by decide +kernel
theorem d_Mo_occurs_21 : decode prog_7_method_26_code 21 = .ok (.iload_n 3, 1) := by decide +kernel
theorem d_Mo_occurs_22 : decode prog_7_method_26_code 22 = .ok (.aload_n 0, 1) := by decide +kernel
theorem d_Mo_occurs_23 : decode prog_7_method_26_code 23 = .ok (.getfield 95, 3) := by decide +kernel
theorem d_Mo_occurs_26 : decode prog_7_method_26_code 26 = .ok (.if_icmp .ge 36, 3) := by decide +kernel
theorem d_Mo_occurs_29 : decode prog_7_method_26_code 29 = .ok (.iload_n 2, 1) := by decide +kernel
theorem d_Mo_occurs_30 : decode prog_7_method_26_code 30 = .ok (.ifCond .eq 32, 3) := by decide +kernel
theorem d_Mo_occurs_33 : decode prog_7_method_26_code 33 = .ok (.aload_n 0, 1) := by decide +kernel
theorem d_Mo_occurs_34 : decode prog_7_method_26_code 34 = .ok (.getfield 17, 3) := by decide +kernel
theorem d_Mo_occurs_37 : decode prog_7_method_26_code 37 = .ok (.iload_n 1, 1) := by decide +kernel
theorem d_Mo_occurs_38 : decode prog_7_method_26_code 38 = .ok (.iload_n 3, 1) := by decide +kernel
theorem d_Mo_occurs_39 : decode prog_7_method_26_code 39 = .ok (.iadd, 1) := by decide +kernel
theorem d_Mo_occurs_40 : decode prog_7_method_26_code 40 = .ok (.iaload, 1) := by decide +kernel
theorem d_Mo_occurs_41 : decode prog_7_method_26_code 41 = .ok (.aload_n 0, 1) := by decide +kernel
theorem d_Mo_occurs_42 : decode prog_7_method_26_code 42 = .ok (.getfield 33, 3) := by decide +kernel
theorem d_Mo_occurs_45 : decode prog_7_method_26_code 45 = .ok (.iload_n 3, 1) := by decide +kernel
theorem d_Mo_occurs_46 : decode prog_7_method_26_code 46 = .ok (.iaload, 1) := by decide +kernel
theorem d_Mo_occurs_47 : decode prog_7_method_26_code 47 = .ok (.if_icmp .ne 7, 3) := by decide +kernel
theorem d_Mo_occurs_50 : decode prog_7_method_26_code 50 = .ok (.iconst 1, 1) := by decide +kernel
theorem d_Mo_occurs_51 : decode prog_7_method_26_code 51 = .ok (.goto 4, 3) := by decide +kernel
theorem d_Mo_occurs_54 : decode prog_7_method_26_code 54 = .ok (.iconst 0, 1) := by decide +kernel
theorem d_Mo_occurs_55 : decode prog_7_method_26_code 55 = .ok (.istore_n 2, 1) := by decide +kernel
theorem d_Mo_occurs_56 : decode prog_7_method_26_code 56 = .ok (.iinc 3 1, 3) := by decide +kernel
theorem d_Mo_occurs_59 : decode prog_7_method_26_code 59 = .ok (.goto (-38), 3) := by decide +kernel
theorem d_Mo_occurs_62 : decode prog_7_method_26_code 62 = .ok (.iload_n 2, 1) := by decide +kernel
theorem d_Mo_occurs_63 : decode prog_7_method_26_code 63 = .ok (.ireturn, 1) := by decide +kernel
theorem d_Mo_place_0 : decode prog_7_method_29_code 0 = .ok (.iload_n 3, 1) := by decide +kernel
theorem d_Mo_place_1 : decode prog_7_method_29_code 1 = .ok (.ifCond .lt 19, 3) := by decide +kernel
theorem d_Mo_place_4 : decode prog_7_method_29_code 4 = .ok (.aload_n 0, 1) := by decide +kernel
theorem d_Mo_place_5 : decode prog_7_method_29_code 5 = .ok (.lload_n 1, 1) := by decide +kernel
theorem d_Mo_place_6 : decode prog_7_method_29_code 6 = .ok (.invokevirtual 101, 3) := by decide +kernel
theorem d_Mo_place_9 : decode prog_7_method_29_code 9 = .ok (.ifCond .eq 11, 3) := by decide +kernel
theorem d_Mo_place_12 : decode prog_7_method_29_code 12 = .ok (.aload_n 0, 1) := by decide +kernel
theorem d_Mo_place_13 : decode prog_7_method_29_code 13 = .ok (.iload_n 3, 1) := by decide +kernel
theorem d_Mo_place_14 : decode prog_7_method_29_code 14 = .ok (.invokevirtual 105, 3) := by decide +kernel
theorem d_Mo_place_17 : decode prog_7_method_29_code 17 = .ok (.goto 4, 3) := by decide +kernel
theorem d_Mo_place_20 : decode prog_7_method_29_code 20 = .ok (.iconst (-1), 1) := by decide +kernel
theorem d_Mo_place_21 : decode prog_7_method_29_code 21 = .ok (.istore 4, 2) := by decide +kernel
theorem d_Mo_place_23 : decode prog_7_method_29_code 23 = .ok (.iload 4, 2) := by decide +kernel
theorem d_Mo_place_25 : decode prog_7_method_29_code 25 = .ok (.ifCond .ge 5, 3) := by decide +kernel
theorem d_Mo_place_28 : decode prog_7_method_29_code 28 = .ok (.iconst (-1), 1) := by decide +kernel
theorem d_Mo_place_29 : decode prog_7_method_29_code 29 = .ok (.ireturn, 1) := by decide +kernel
theorem d_Mo_place_30 : decode prog_7_method_29_code 30 = .ok (.iconst 0, 1) := by decide +kernel
theorem d_Mo_place_31 : decode prog_7_method_29_code 31 = .ok (.istore 5, 2) := by decide +kernel
theorem d_Mo_place_33 : decode prog_7_method_29_code 33 = .ok (.iconst 0, 1) := by decide +kernel
theorem d_Mo_place_34 : decode prog_7_method_29_code 34 = .ok (.istore 6, 2) := by decide +kernel
theorem d_Mo_place_36 : decode prog_7_method_29_code 36 = .ok (.iconst 0, 1) := by decide +kernel
theorem d_Mo_place_37 : decode prog_7_method_29_code 37 = .ok (.istore 7, 2) := by decide +kernel
theorem d_Mo_place_39 : decode prog_7_method_29_code 39 = .ok (.iload 7, 2) := by decide +kernel
theorem d_Mo_place_41 : decode prog_7_method_29_code 41 = .ok (.iload 4, 2) := by decide +kernel
theorem d_Mo_place_43 : decode prog_7_method_29_code 43 = .ok (.if_icmp .ge 53, 3) := by decide +kernel
theorem d_Mo_place_46 : decode prog_7_method_29_code 46 = .ok (.aload_n 0, 1) := by decide +kernel
theorem d_Mo_place_47 : decode prog_7_method_29_code 47 = .ok (.getfield 17, 3) := by decide +kernel
theorem d_Mo_place_50 : decode prog_7_method_29_code 50 = .ok (.iload 7, 2) := by decide +kernel
theorem d_Mo_place_52 : decode prog_7_method_29_code 52 = .ok (.iaload, 1) := by decide +kernel
theorem d_Mo_place_53 : decode prog_7_method_29_code 53 = .ok (.bipush 124, 2) := by decide +kernel
theorem d_Mo_place_55 : decode prog_7_method_29_code 55 = .ok (.if_icmp .ne 7, 3) := by decide +kernel
theorem d_Mo_place_58 : decode prog_7_method_29_code 58 = .ok (.iconst 0, 1) := by decide +kernel
theorem d_Mo_place_59 : decode prog_7_method_29_code 59 = .ok (.goto 7, 3) := by decide +kernel
theorem d_Mo_place_62 : decode prog_7_method_29_code 62 = .ok (.iload 6, 2) := by decide +kernel
theorem d_Mo_place_64 : decode prog_7_method_29_code 64 = .ok (.iconst 1, 1) := by decide +kernel
theorem d_Mo_place_65 : decode prog_7_method_29_code 65 = .ok (.iadd, 1) := by decide +kernel
theorem d_Mo_place_66 : decode prog_7_method_29_code 66 = .ok (.istore 6, 2) := by decide +kernel
theorem d_Mo_place_68 : decode prog_7_method_29_code 68 = .ok (.iload 5, 2) := by decide +kernel
theorem d_Mo_place_70 : decode prog_7_method_29_code 70 = .ok (.aload_n 0, 1) := by decide +kernel
theorem d_Mo_place_71 : decode prog_7_method_29_code 71 = .ok (.getfield 17, 3) := by decide +kernel
theorem d_Mo_place_74 : decode prog_7_method_29_code 74 = .ok (.iload 7, 2) := by decide +kernel
theorem d_Mo_place_76 : decode prog_7_method_29_code 76 = .ok (.iaload, 1) := by decide +kernel
theorem d_Mo_place_77 : decode prog_7_method_29_code 77 = .ok (.bipush 124, 2) := by decide +kernel
theorem d_Mo_place_79 : decode prog_7_method_29_code 79 = .ok (.if_icmp .ne 7, 3) := by decide +kernel
theorem d_Mo_place_82 : decode prog_7_method_29_code 82 = .ok (.iconst 1, 1) := by decide +kernel
theorem d_Mo_place_83 : decode prog_7_method_29_code 83 = .ok (.goto 4, 3) := by decide +kernel
theorem d_Mo_place_86 : decode prog_7_method_29_code 86 = .ok (.iconst 0, 1) := by decide +kernel
theorem d_Mo_place_87 : decode prog_7_method_29_code 87 = .ok (.iadd, 1) := by decide +kernel
theorem d_Mo_place_88 : decode prog_7_method_29_code 88 = .ok (.istore 5, 2) := by decide +kernel
theorem d_Mo_place_90 : decode prog_7_method_29_code 90 = .ok (.iinc 7 1, 3) := by decide +kernel
theorem d_Mo_place_93 : decode prog_7_method_29_code 93 = .ok (.goto (-54), 3) := by decide +kernel
theorem d_Mo_place_96 : decode prog_7_method_29_code 96 = .ok (.bipush 100, 2) := by decide +kernel
theorem d_Mo_place_98 : decode prog_7_method_29_code 98 = .ok (.iload 5, 2) := by decide +kernel
theorem d_Mo_place_100 : decode prog_7_method_29_code 100 = .ok (.imul, 1) := by decide +kernel
theorem d_Mo_place_101 : decode prog_7_method_29_code 101 = .ok (.iload 6, 2) := by decide +kernel
theorem d_Mo_place_103 : decode prog_7_method_29_code 103 = .ok (.iadd, 1) := by decide +kernel
theorem d_Mo_place_104 : decode prog_7_method_29_code 104 = .ok (.ireturn, 1) := by decide +kernel
theorem d_Mo_matches_0 : decode prog_7_method_33_code 0 = .ok (.iload_n 3, 1) := by decide +kernel
theorem d_Mo_matches_1 : decode prog_7_method_33_code 1 = .ok (.ifCond .lt 16, 3) := by decide +kernel
theorem d_Mo_matches_4 : decode prog_7_method_33_code 4 = .ok (.iload_n 3, 1) := by decide +kernel
theorem d_Mo_matches_5 : decode prog_7_method_33_code 5 = .ok (.iconst 4, 1) := by decide +kernel
theorem d_Mo_matches_6 : decode prog_7_method_33_code 6 = .ok (.if_icmp .gt 11, 3) := by decide +kernel
theorem d_Mo_matches_9 : decode prog_7_method_33_code 9 = .ok (.aload_n 0, 1) := by decide +kernel
theorem d_Mo_matches_10 : decode prog_7_method_33_code 10 = .ok (.lload_n 1, 1) := by decide +kernel
theorem d_Mo_matches_11 : decode prog_7_method_33_code 11 = .ok (.invokevirtual 101, 3) := by decide +kernel
theorem d_Mo_matches_14 : decode prog_7_method_33_code 14 = .ok (.ifCond .ne 7, 3) := by decide +kernel
theorem d_Mo_matches_17 : decode prog_7_method_33_code 17 = .ok (.iconst (-1), 1) := by decide +kernel
theorem d_Mo_matches_18 : decode prog_7_method_33_code 18 = .ok (.goto 9, 3) := by decide +kernel
theorem d_Mo_matches_21 : decode prog_7_method_33_code 21 = .ok (.aload_n 0, 1) := by decide +kernel
theorem d_Mo_matches_22 : decode prog_7_method_33_code 22 = .ok (.iload_n 3, 1) := by decide +kernel
theorem d_Mo_matches_23 : decode prog_7_method_33_code 23 = .ok (.iconst (-1), 1) := by decide +kernel
theorem d_Mo_matches_24 : decode prog_7_method_33_code 24 = .ok (.invokevirtual 116, 3) := by decide +kernel
theorem d_Mo_matches_27 : decode prog_7_method_33_code 27 = .ok (.ireturn, 1) := by decide +kernel
theorem d_Mo_look_0 : decode prog_7_method_32_code 0 = .ok (.iconst 0, 1) := by decide +kernel
theorem d_Mo_look_1 : decode prog_7_method_32_code 1 = .ok (.istore_n 3, 1) := by decide +kernel
theorem d_Mo_look_2 : decode prog_7_method_32_code 2 = .ok (.aload_n 0, 1) := by decide +kernel
theorem d_Mo_look_3 : decode prog_7_method_32_code 3 = .ok (.invokevirtual 75, 3) := by decide +kernel
theorem d_Mo_look_6 : decode prog_7_method_32_code 6 = .ok (.istore 4, 2) := by decide +kernel
theorem d_Mo_look_8 : decode prog_7_method_32_code 8 = .ok (.iconst 0, 1) := by decide +kernel
theorem d_Mo_look_9 : decode prog_7_method_32_code 9 = .ok (.istore 5, 2) := by decide +kernel
theorem d_Mo_look_11 : decode prog_7_method_32_code 11 = .ok (.iload 5, 2) := by decide +kernel
theorem d_Mo_look_13 : decode prog_7_method_32_code 13 = .ok (.iload 4, 2) := by decide +kernel
theorem d_Mo_look_15 : decode prog_7_method_32_code 15 = .ok (.if_icmp .ge 92, 3) := by decide +kernel
theorem d_Mo_look_18 : decode prog_7_method_32_code 18 = .ok (.aload_n 0, 1) := by decide +kernel
theorem d_Mo_look_19 : decode prog_7_method_32_code 19 = .ok (.iload 5, 2) := by decide +kernel
theorem d_Mo_look_21 : decode prog_7_method_32_code 21 = .ok (.invokevirtual 86, 3) := by decide +kernel
theorem d_Mo_look_24 : decode prog_7_method_32_code 24 = .ok (.istore 6, 2) := by decide +kernel
theorem d_Mo_look_26 : decode prog_7_method_32_code 26 = .ok (.aload_n 0, 1) := by decide +kernel
theorem d_Mo_look_27 : decode prog_7_method_32_code 27 = .ok (.iload 6, 2) := by decide +kernel
theorem d_Mo_look_29 : decode prog_7_method_32_code 29 = .ok (.invokevirtual 89, 3) := by decide +kernel
theorem d_Mo_look_32 : decode prog_7_method_32_code 32 = .ok (.istore 7, 2) := by decide +kernel
theorem d_Mo_look_34 : decode prog_7_method_32_code 34 = .ok (.aload_n 0, 1) := by decide +kernel
theorem d_Mo_look_35 : decode prog_7_method_32_code 35 = .ok (.iload 6, 2) := by decide +kernel
theorem d_Mo_look_37 : decode prog_7_method_32_code 37 = .ok (.iload 7, 2) := by decide +kernel
theorem d_Mo_look_39 : decode prog_7_method_32_code 39 = .ok (.invokevirtual 112, 3) := by decide +kernel
theorem d_Mo_look_42 : decode prog_7_method_32_code 42 = .ok (.iconst 0, 1) := by decide +kernel
theorem d_Mo_look_43 : decode prog_7_method_32_code 43 = .ok (.istore 8, 2) := by decide +kernel
theorem d_Mo_look_45 : decode prog_7_method_32_code 45 = .ok (.iload 8, 2) := by decide +kernel
theorem d_Mo_look_47 : decode prog_7_method_32_code 47 = .ok (.iload 7, 2) := by decide +kernel
theorem d_Mo_look_49 : decode prog_7_method_32_code 49 = .ok (.iload 6, 2) := by decide +kernel
theorem d_Mo_look_51 : decode prog_7_method_32_code 51 = .ok (.isub, 1) := by decide +kernel
theorem d_Mo_look_52 : decode prog_7_method_32_code 52 = .ok (.if_icmp .gt 49, 3) := by decide +kernel
theorem d_Mo_look_55 : decode prog_7_method_32_code 55 = .ok (.aload_n 0, 1) := by decide +kernel
theorem d_Mo_look_56 : decode prog_7_method_32_code 56 = .ok (.getfield 39, 3) := by decide +kernel
theorem d_Mo_look_59 : decode prog_7_method_32_code 59 = .ok (.iload 8, 2) := by decide +kernel
theorem d_Mo_look_61 : decode prog_7_method_32_code 61 = .ok (.iaload, 1) := by decide +kernel
theorem d_Mo_look_62 : decode prog_7_method_32_code 62 = .ok (.iload_n 1, 1) := by decide +kernel
theorem d_Mo_look_63 : decode prog_7_method_32_code 63 = .ok (.if_icmp .gt 32, 3) := by decide +kernel
theorem d_Mo_look_66 : decode prog_7_method_32_code 66 = .ok (.iload_n 3, 1) := by decide +kernel
theorem d_Mo_look_67 : decode prog_7_method_32_code 67 = .ok (.iload_n 2, 1) := by decide +kernel
theorem d_Mo_look_68 : decode prog_7_method_32_code 68 = .ok (.if_icmp .ne 24, 3) := by decide +kernel
theorem d_Mo_look_71 : decode prog_7_method_32_code 71 = .ok (.sipush 10000, 3) := by decide +kernel
theorem d_Mo_look_74 : decode prog_7_method_32_code 74 = .ok (.iload 5, 2) := by decide +kernel
theorem d_Mo_look_76 : decode prog_7_method_32_code 76 = .ok (.imul, 1) := by decide +kernel
theorem d_Mo_look_77 : decode prog_7_method_32_code 77 = .ok (.bipush 10, 2) := by decide +kernel
theorem d_Mo_look_79 : decode prog_7_method_32_code 79 = .ok (.iload 8, 2) := by decide +kernel
theorem d_Mo_look_81 : decode prog_7_method_32_code 81 = .ok (.imul, 1) := by decide +kernel
theorem d_Mo_look_82 : decode prog_7_method_32_code 82 = .ok (.iadd, 1) := by decide +kernel
theorem d_Mo_look_83 : decode prog_7_method_32_code 83 = .ok (.aload_n 0, 1) := by decide +kernel
theorem d_Mo_look_84 : decode prog_7_method_32_code 84 = .ok (.getfield 39, 3) := by decide +kernel
theorem d_Mo_look_87 : decode prog_7_method_32_code 87 = .ok (.iload 8, 2) := by decide +kernel
theorem d_Mo_look_89 : decode prog_7_method_32_code 89 = .ok (.iaload, 1) := by decide +kernel
theorem d_Mo_look_90 : decode prog_7_method_32_code 90 = .ok (.iadd, 1) := by decide +kernel
theorem d_Mo_look_91 : decode prog_7_method_32_code 91 = .ok (.ireturn, 1) := by decide +kernel
theorem d_Mo_look_92 : decode prog_7_method_32_code 92 = .ok (.iinc 3 1, 3) := by decide +kernel
theorem d_Mo_look_95 : decode prog_7_method_32_code 95 = .ok (.iinc 8 1, 3) := by decide +kernel
theorem d_Mo_look_98 : decode prog_7_method_32_code 98 = .ok (.goto (-53), 3) := by decide +kernel
theorem d_Mo_look_101 : decode prog_7_method_32_code 101 = .ok (.iinc 5 1, 3) := by decide +kernel
theorem d_Mo_look_104 : decode prog_7_method_32_code 104 = .ok (.goto (-93), 3) := by decide +kernel
theorem d_Mo_look_107 : decode prog_7_method_32_code 107 = .ok (.iload_n 2, 1) := by decide +kernel
theorem d_Mo_look_108 : decode prog_7_method_32_code 108 = .ok (.ifCond .ge 7, 3) := by decide +kernel
theorem d_Mo_look_111 : decode prog_7_method_32_code 111 = .ok (.iload_n 3, 1) := by decide +kernel
theorem d_Mo_look_112 : decode prog_7_method_32_code 112 = .ok (.goto 4, 3) := by decide +kernel
theorem d_Mo_look_115 : decode prog_7_method_32_code 115 = .ok (.iconst (-1), 1) := by decide +kernel
theorem d_Mo_look_116 : decode prog_7_method_32_code 116 = .ok (.ireturn, 1) := by decide +kernel
theorem d_Mo_measure_0 : decode prog_7_method_31_code 0 = .ok (.iconst 0, 1) := by decide +kernel
theorem d_Mo_measure_1 : decode prog_7_method_31_code 1 = .ok (.istore_n 3, 1) := by decide +kernel
theorem d_Mo_measure_2 : decode prog_7_method_31_code 2 = .ok (.iload_n 3, 1) := by decide +kernel
theorem d_Mo_measure_3 : decode prog_7_method_31_code 3 = .ok (.iload_n 2, 1) := by decide +kernel
theorem d_Mo_measure_4 : decode prog_7_method_31_code 4 = .ok (.iload_n 1, 1) := by decide +kernel
theorem d_Mo_measure_5 : decode prog_7_method_31_code 5 = .ok (.isub, 1) := by decide +kernel
theorem d_Mo_measure_6 : decode prog_7_method_31_code 6 = .ok (.if_icmp .gt 19, 3) := by decide +kernel
theorem d_Mo_measure_9 : decode prog_7_method_31_code 9 = .ok (.aload_n 0, 1) := by decide +kernel
theorem d_Mo_measure_10 : decode prog_7_method_31_code 10 = .ok (.getfield 39, 3) := by decide +kernel
theorem d_Mo_measure_13 : decode prog_7_method_31_code 13 = .ok (.iload_n 3, 1) := by decide +kernel
theorem d_Mo_measure_14 : decode prog_7_method_31_code 14 = .ok (.aload_n 0, 1) := by decide +kernel
theorem d_Mo_measure_15 : decode prog_7_method_31_code 15 = .ok (.getfield 95, 3) := by decide +kernel
theorem d_Mo_measure_18 : decode prog_7_method_31_code 18 = .ok (.iastore, 1) := by decide +kernel
theorem d_Mo_measure_19 : decode prog_7_method_31_code 19 = .ok (.iinc 3 1, 3) := by decide +kernel
theorem d_Mo_measure_22 : decode prog_7_method_31_code 22 = .ok (.goto (-20), 3) := by decide +kernel
theorem d_Mo_measure_25 : decode prog_7_method_31_code 25 = .ok (.iload_n 1, 1) := by decide +kernel
theorem d_Mo_measure_26 : decode prog_7_method_31_code 26 = .ok (.istore_n 3, 1) := by decide +kernel
theorem d_Mo_measure_27 : decode prog_7_method_31_code 27 = .ok (.iload_n 3, 1) := by decide +kernel
theorem d_Mo_measure_28 : decode prog_7_method_31_code 28 = .ok (.iload_n 2, 1) := by decide +kernel
theorem d_Mo_measure_29 : decode prog_7_method_31_code 29 = .ok (.if_icmp .ge 115, 3) := by decide +kernel
theorem d_Mo_measure_32 : decode prog_7_method_31_code 32 = .ok (.iconst 0, 1) := by decide +kernel
theorem d_Mo_measure_33 : decode prog_7_method_31_code 33 = .ok (.istore 4, 2) := by decide +kernel
theorem d_Mo_measure_35 : decode prog_7_method_31_code 35 = .ok (.iload 4, 2) := by decide +kernel
theorem d_Mo_measure_37 : decode prog_7_method_31_code 37 = .ok (.aload_n 0, 1) := by decide +kernel
theorem d_Mo_measure_38 : decode prog_7_method_31_code 38 = .ok (.getfield 95, 3) := by decide +kernel
theorem d_Mo_measure_41 : decode prog_7_method_31_code 41 = .ok (.if_icmp .gt 18, 3) := by decide +kernel
theorem d_Mo_measure_44 : decode prog_7_method_31_code 44 = .ok (.aload_n 0, 1) := by decide +kernel
theorem d_Mo_measure_45 : decode prog_7_method_31_code 45 = .ok (.getfield 36, 3) := by decide +kernel
theorem d_Mo_measure_48 : decode prog_7_method_31_code 48 = .ok (.iload 4, 2) := by decide +kernel
theorem d_Mo_measure_50 : decode prog_7_method_31_code 50 = .ok (.iload 4, 2) := by decide +kernel
theorem d_Mo_measure_52 : decode prog_7_method_31_code 52 = .ok (.iastore, 1) := by decide +kernel
theorem d_Mo_measure_53 : decode prog_7_method_31_code 53 = .ok (.iinc 4 1, 3) := by decide +kernel
theorem d_Mo_measure_56 : decode prog_7_method_31_code 56 = .ok (.goto (-21), 3) := by decide +kernel
theorem d_Mo_measure_59 : decode prog_7_method_31_code 59 = .ok (.iload_n 3, 1) := by decide +kernel
theorem d_Mo_measure_60 : decode prog_7_method_31_code 60 = .ok (.istore 4, 2) := by decide +kernel
theorem d_Mo_measure_62 : decode prog_7_method_31_code 62 = .ok (.iload 4, 2) := by decide +kernel
theorem d_Mo_measure_64 : decode prog_7_method_31_code 64 = .ok (.iload_n 2, 1) := by decide +kernel
theorem d_Mo_measure_65 : decode prog_7_method_31_code 65 = .ok (.if_icmp .ge 73, 3) := by decide +kernel
theorem d_Mo_measure_68 : decode prog_7_method_31_code 68 = .ok (.aload_n 0, 1) := by decide +kernel
theorem d_Mo_measure_69 : decode prog_7_method_31_code 69 = .ok (.aload_n 0, 1) := by decide +kernel
theorem d_Mo_measure_70 : decode prog_7_method_31_code 70 = .ok (.getfield 17, 3) := by decide +kernel
theorem d_Mo_measure_73 : decode prog_7_method_31_code 73 = .ok (.iload 4, 2) := by decide +kernel
theorem d_Mo_measure_75 : decode prog_7_method_31_code 75 = .ok (.iaload, 1) := by decide +kernel
theorem d_Mo_measure_76 : decode prog_7_method_31_code 76 = .ok (.invokevirtual 108, 3) := by decide +kernel
theorem d_Mo_measure_79 : decode prog_7_method_31_code 79 = .ok (.iload 4, 2) := by decide +kernel
theorem d_Mo_measure_81 : decode prog_7_method_31_code 81 = .ok (.iconst 1, 1) := by decide +kernel
theorem d_Mo_measure_82 : decode prog_7_method_31_code 82 = .ok (.iadd, 1) := by decide +kernel
theorem d_Mo_measure_83 : decode prog_7_method_31_code 83 = .ok (.iload_n 1, 1) := by decide +kernel
theorem d_Mo_measure_84 : decode prog_7_method_31_code 84 = .ok (.isub, 1) := by decide +kernel
theorem d_Mo_measure_85 : decode prog_7_method_31_code 85 = .ok (.istore 5, 2) := by decide +kernel
theorem d_Mo_measure_87 : decode prog_7_method_31_code 87 = .ok (.aload_n 0, 1) := by decide +kernel
theorem d_Mo_measure_88 : decode prog_7_method_31_code 88 = .ok (.getfield 39, 3) := by decide +kernel
theorem d_Mo_measure_91 : decode prog_7_method_31_code 91 = .ok (.iload 5, 2) := by decide +kernel
theorem d_Mo_measure_93 : decode prog_7_method_31_code 93 = .ok (.aload_n 0, 1) := by decide +kernel
theorem d_Mo_measure_94 : decode prog_7_method_31_code 94 = .ok (.getfield 36, 3) := by decide +kernel
theorem d_Mo_measure_97 : decode prog_7_method_31_code 97 = .ok (.aload_n 0, 1) := by decide +kernel
theorem d_Mo_measure_98 : decode prog_7_method_31_code 98 = .ok (.getfield 95, 3) := by decide +kernel
theorem d_Mo_measure_101 : decode prog_7_method_31_code 101 = .ok (.iaload, 1) := by decide +kernel
theorem d_Mo_measure_102 : decode prog_7_method_31_code 102 = .ok (.aload_n 0, 1) := by decide +kernel
theorem d_Mo_measure_103 : decode prog_7_method_31_code 103 = .ok (.getfield 39, 3) := by decide +kernel
theorem d_Mo_measure_106 : decode prog_7_method_31_code 106 = .ok (.iload 5, 2) := by decide +kernel
theorem d_Mo_measure_108 : decode prog_7_method_31_code 108 = .ok (.iaload, 1) := by decide +kernel
theorem d_Mo_measure_109 : decode prog_7_method_31_code 109 = .ok (.if_icmp .ge 15, 3) := by decide +kernel
theorem d_Mo_measure_112 : decode prog_7_method_31_code 112 = .ok (.aload_n 0, 1) := by decide +kernel
theorem d_Mo_measure_113 : decode prog_7_method_31_code 113 = .ok (.getfield 36, 3) := by decide +kernel
theorem d_Mo_measure_116 : decode prog_7_method_31_code 116 = .ok (.aload_n 0, 1) := by decide +kernel
theorem d_Mo_measure_117 : decode prog_7_method_31_code 117 = .ok (.getfield 95, 3) := by decide +kernel
theorem d_Mo_measure_120 : decode prog_7_method_31_code 120 = .ok (.iaload, 1) := by decide +kernel
theorem d_Mo_measure_121 : decode prog_7_method_31_code 121 = .ok (.goto 10, 3) := by decide +kernel
theorem d_Mo_measure_124 : decode prog_7_method_31_code 124 = .ok (.aload_n 0, 1) := by decide +kernel
theorem d_Mo_measure_125 : decode prog_7_method_31_code 125 = .ok (.getfield 39, 3) := by decide +kernel
theorem d_Mo_measure_128 : decode prog_7_method_31_code 128 = .ok (.iload 5, 2) := by decide +kernel
theorem d_Mo_measure_130 : decode prog_7_method_31_code 130 = .ok (.iaload, 1) := by decide +kernel
theorem d_Mo_measure_131 : decode prog_7_method_31_code 131 = .ok (.iastore, 1) := by decide +kernel
theorem d_Mo_measure_132 : decode prog_7_method_31_code 132 = .ok (.iinc 4 1, 3) := by decide +kernel
theorem d_Mo_measure_135 : decode prog_7_method_31_code 135 = .ok (.goto (-73), 3) := by decide +kernel
theorem d_Mo_measure_138 : decode prog_7_method_31_code 138 = .ok (.iinc 3 1, 3) := by decide +kernel
theorem d_Mo_measure_141 : decode prog_7_method_31_code 141 = .ok (.goto (-114), 3) := by decide +kernel
theorem d_Mo_measure_144 : decode prog_7_method_31_code 144 = .ok (.return_, 1) := by decide +kernel
theorem d_Mo_letter_0 : decode prog_7_method_30_code 0 = .ok (.aload_n 0, 1) := by decide +kernel
theorem d_Mo_letter_1 : decode prog_7_method_30_code 1 = .ok (.getfield 36, 3) := by decide +kernel
theorem d_Mo_letter_4 : decode prog_7_method_30_code 4 = .ok (.iconst 0, 1) := by decide +kernel
theorem d_Mo_letter_5 : decode prog_7_method_30_code 5 = .ok (.iaload, 1) := by decide +kernel
theorem d_Mo_letter_6 : decode prog_7_method_30_code 6 = .ok (.istore_n 2, 1) := by decide +kernel
theorem d_Mo_letter_7 : decode prog_7_method_30_code 7 = .ok (.aload_n 0, 1) := by decide +kernel
theorem d_Mo_letter_8 : decode prog_7_method_30_code 8 = .ok (.getfield 36, 3) := by decide +kernel
theorem d_Mo_letter_11 : decode prog_7_method_30_code 11 = .ok (.iconst 0, 1) := by decide +kernel
theorem d_Mo_letter_12 : decode prog_7_method_30_code 12 = .ok (.aload_n 0, 1) := by decide +kernel
theorem d_Mo_letter_13 : decode prog_7_method_30_code 13 = .ok (.getfield 36, 3) := by decide +kernel
theorem d_Mo_letter_16 : decode prog_7_method_30_code 16 = .ok (.iconst 0, 1) := by decide +kernel
theorem d_Mo_letter_17 : decode prog_7_method_30_code 17 = .ok (.iaload, 1) := by decide +kernel
theorem d_Mo_letter_18 : decode prog_7_method_30_code 18 = .ok (.iconst 1, 1) := by decide +kernel
theorem d_Mo_letter_19 : decode prog_7_method_30_code 19 = .ok (.iadd, 1) := by decide +kernel
theorem d_Mo_letter_20 : decode prog_7_method_30_code 20 = .ok (.iastore, 1) := by decide +kernel
theorem d_Mo_letter_21 : decode prog_7_method_30_code 21 = .ok (.iconst 1, 1) := by decide +kernel
theorem d_Mo_letter_22 : decode prog_7_method_30_code 22 = .ok (.istore_n 3, 1) := by decide +kernel
theorem d_Mo_letter_23 : decode prog_7_method_30_code 23 = .ok (.iload_n 3, 1) := by decide +kernel
theorem d_Mo_letter_24 : decode prog_7_method_30_code 24 = .ok (.aload_n 0, 1) := by decide +kernel
theorem d_Mo_letter_25 : decode prog_7_method_30_code 25 = .ok (.getfield 95, 3) := by decide +kernel
theorem d_Mo_letter_28 : decode prog_7_method_30_code 28 = .ok (.if_icmp .gt 101, 3) := by decide +kernel
theorem d_Mo_letter_31 : decode prog_7_method_30_code 31 = .ok (.iload_n 2, 1) := by decide +kernel
theorem d_Mo_letter_32 : decode prog_7_method_30_code 32 = .ok (.aload_n 0, 1) := by decide +kernel
theorem d_Mo_letter_33 : decode prog_7_method_30_code 33 = .ok (.getfield 33, 3) := by decide +kernel
theorem d_Mo_letter_36 : decode prog_7_method_30_code 36 = .ok (.iload_n 3, 1) := by decide +kernel
theorem d_Mo_letter_37 : decode prog_7_method_30_code 37 = .ok (.iconst 1, 1) := by decide +kernel
theorem d_Mo_letter_38 : decode prog_7_method_30_code 38 = .ok (.isub, 1) := by decide +kernel
theorem d_Mo_letter_39 : decode prog_7_method_30_code 39 = .ok (.iaload, 1) := by decide +kernel
theorem d_Mo_letter_40 : decode prog_7_method_30_code 40 = .ok (.iload_n 1, 1) := by decide +kernel
theorem d_Mo_letter_41 : decode prog_7_method_30_code 41 = .ok (.if_icmp .ne 7, 3) := by decide +kernel
theorem d_Mo_letter_44 : decode prog_7_method_30_code 44 = .ok (.iconst 0, 1) := by decide +kernel
theorem d_Mo_letter_45 : decode prog_7_method_30_code 45 = .ok (.goto 4, 3) := by decide +kernel
theorem d_Mo_letter_48 : decode prog_7_method_30_code 48 = .ok (.iconst 1, 1) := by decide +kernel
theorem d_Mo_letter_49 : decode prog_7_method_30_code 49 = .ok (.iadd, 1) := by decide +kernel
theorem d_Mo_letter_50 : decode prog_7_method_30_code 50 = .ok (.istore 4, 2) := by decide +kernel
theorem d_Mo_letter_52 : decode prog_7_method_30_code 52 = .ok (.aload_n 0, 1) := by decide +kernel
theorem d_Mo_letter_53 : decode prog_7_method_30_code 53 = .ok (.getfield 36, 3) := by decide +kernel
theorem d_Mo_letter_56 : decode prog_7_method_30_code 56 = .ok (.iload_n 3, 1) := by decide +kernel
theorem d_Mo_letter_57 : decode prog_7_method_30_code 57 = .ok (.iaload, 1) := by decide +kernel
theorem d_Mo_letter_58 : decode prog_7_method_30_code 58 = .ok (.istore_n 2, 1) := by decide +kernel
theorem d_Mo_letter_59 : decode prog_7_method_30_code 59 = .ok (.aload_n 0, 1) := by decide +kernel
theorem d_Mo_letter_60 : decode prog_7_method_30_code 60 = .ok (.getfield 36, 3) := by decide +kernel
theorem d_Mo_letter_63 : decode prog_7_method_30_code 63 = .ok (.iload_n 3, 1) := by decide +kernel
theorem d_Mo_letter_64 : decode prog_7_method_30_code 64 = .ok (.iaload, 1) := by decide +kernel
theorem d_Mo_letter_65 : decode prog_7_method_30_code 65 = .ok (.iconst 1, 1) := by decide +kernel
theorem d_Mo_letter_66 : decode prog_7_method_30_code 66 = .ok (.iadd, 1) := by decide +kernel
theorem d_Mo_letter_67 : decode prog_7_method_30_code 67 = .ok (.iload 4, 2) := by decide +kernel
theorem d_Mo_letter_69 : decode prog_7_method_30_code 69 = .ok (.if_icmp .ge 14, 3) := by decide +kernel
theorem d_Mo_letter_72 : decode prog_7_method_30_code 72 = .ok (.aload_n 0, 1) := by decide +kernel
theorem d_Mo_letter_73 : decode prog_7_method_30_code 73 = .ok (.getfield 36, 3) := by decide +kernel
theorem d_Mo_letter_76 : decode prog_7_method_30_code 76 = .ok (.iload_n 3, 1) := by decide +kernel
theorem d_Mo_letter_77 : decode prog_7_method_30_code 77 = .ok (.iaload, 1) := by decide +kernel
theorem d_Mo_letter_78 : decode prog_7_method_30_code 78 = .ok (.iconst 1, 1) := by decide +kernel
theorem d_Mo_letter_79 : decode prog_7_method_30_code 79 = .ok (.iadd, 1) := by decide +kernel
theorem d_Mo_letter_80 : decode prog_7_method_30_code 80 = .ok (.goto 5, 3) := by decide +kernel
theorem d_Mo_letter_83 : decode prog_7_method_30_code 83 = .ok (.iload 4, 2) := by decide +kernel
theorem d_Mo_letter_85 : decode prog_7_method_30_code 85 = .ok (.istore 4, 2) := by decide +kernel
theorem d_Mo_letter_87 : decode prog_7_method_30_code 87 = .ok (.aload_n 0, 1) := by decide +kernel
theorem d_Mo_letter_88 : decode prog_7_method_30_code 88 = .ok (.getfield 36, 3) := by decide +kernel
theorem d_Mo_letter_91 : decode prog_7_method_30_code 91 = .ok (.iload_n 3, 1) := by decide +kernel
theorem d_Mo_letter_92 : decode prog_7_method_30_code 92 = .ok (.aload_n 0, 1) := by decide +kernel
theorem d_Mo_letter_93 : decode prog_7_method_30_code 93 = .ok (.getfield 36, 3) := by decide +kernel
theorem d_Mo_letter_96 : decode prog_7_method_30_code 96 = .ok (.iload_n 3, 1) := by decide +kernel
theorem d_Mo_letter_97 : decode prog_7_method_30_code 97 = .ok (.iconst 1, 1) := by decide +kernel
theorem d_Mo_letter_98 : decode prog_7_method_30_code 98 = .ok (.isub, 1) := by decide +kernel
theorem d_Mo_letter_99 : decode prog_7_method_30_code 99 = .ok (.iaload, 1) := by decide +kernel
theorem d_Mo_letter_100 : decode prog_7_method_30_code 100 = .ok (.iconst 1, 1) := by decide +kernel
theorem d_Mo_letter_101 : decode prog_7_method_30_code 101 = .ok (.iadd, 1) := by decide +kernel
theorem d_Mo_letter_102 : decode prog_7_method_30_code 102 = .ok (.iload 4, 2) := by decide +kernel
theorem d_Mo_letter_104 : decode prog_7_method_30_code 104 = .ok (.if_icmp .ge 16, 3) := by decide +kernel
theorem d_Mo_letter_107 : decode prog_7_method_30_code 107 = .ok (.aload_n 0, 1) := by decide +kernel
theorem d_Mo_letter_108 : decode prog_7_method_30_code 108 = .ok (.getfield 36, 3) := by decide +kernel
theorem d_Mo_letter_111 : decode prog_7_method_30_code 111 = .ok (.iload_n 3, 1) := by decide +kernel
theorem d_Mo_letter_112 : decode prog_7_method_30_code 112 = .ok (.iconst 1, 1) := by decide +kernel
theorem d_Mo_letter_113 : decode prog_7_method_30_code 113 = .ok (.isub, 1) := by decide +kernel
theorem d_Mo_letter_114 : decode prog_7_method_30_code 114 = .ok (.iaload, 1) := by decide +kernel
theorem d_Mo_letter_115 : decode prog_7_method_30_code 115 = .ok (.iconst 1, 1) := by decide +kernel
theorem d_Mo_letter_116 : decode prog_7_method_30_code 116 = .ok (.iadd, 1) := by decide +kernel
theorem d_Mo_letter_117 : decode prog_7_method_30_code 117 = .ok (.goto 5, 3) := by decide +kernel
theorem d_Mo_letter_120 : decode prog_7_method_30_code 120 = .ok (.iload 4, 2) := by decide +kernel
theorem d_Mo_letter_122 : decode prog_7_method_30_code 122 = .ok (.iastore, 1) := by decide +kernel
theorem d_Mo_letter_123 : decode prog_7_method_30_code 123 = .ok (.iinc 3 1, 3) := by decide +kernel
theorem d_Mo_letter_126 : decode prog_7_method_30_code 126 = .ok (.goto (-103), 3) := by decide +kernel
theorem d_Mo_letter_129 : decode prog_7_method_30_code 129 = .ok (.return_, 1) := by decide +kernel
theorem d_Mo_match_0 : decode prog_7_method_34_code 0 = .ok (.iload_n 3, 1) := by decide +kernel
theorem d_Mo_match_1 : decode prog_7_method_34_code 1 = .ok (.ifCond .lt 21, 3) := by decide +kernel
theorem d_Mo_match_4 : decode prog_7_method_34_code 4 = .ok (.iload_n 3, 1) := by decide +kernel
theorem d_Mo_match_5 : decode prog_7_method_34_code 5 = .ok (.iconst 4, 1) := by decide +kernel
theorem d_Mo_match_6 : decode prog_7_method_34_code 6 = .ok (.if_icmp .gt 16, 3) := by decide +kernel
theorem d_Mo_match_9 : decode prog_7_method_34_code 9 = .ok (.iload 4, 2) := by decide +kernel
theorem d_Mo_match_11 : decode prog_7_method_34_code 11 = .ok (.ifCond .lt 11, 3) := by decide +kernel
theorem d_Mo_match_14 : decode prog_7_method_34_code 14 = .ok (.aload_n 0, 1) := by decide +kernel
theorem d_Mo_match_15 : decode prog_7_method_34_code 15 = .ok (.lload_n 1, 1) := by decide +kernel
theorem d_Mo_match_16 : decode prog_7_method_34_code 16 = .ok (.invokevirtual 101, 3) := by decide +kernel
theorem d_Mo_match_19 : decode prog_7_method_34_code 19 = .ok (.ifCond .ne 7, 3) := by decide +kernel
theorem d_Mo_match_22 : decode prog_7_method_34_code 22 = .ok (.iconst (-1), 1) := by decide +kernel
theorem d_Mo_match_23 : decode prog_7_method_34_code 23 = .ok (.goto 10, 3) := by decide +kernel
theorem d_Mo_match_26 : decode prog_7_method_34_code 26 = .ok (.aload_n 0, 1) := by decide +kernel
theorem d_Mo_match_27 : decode prog_7_method_34_code 27 = .ok (.iload_n 3, 1) := by decide +kernel
theorem d_Mo_match_28 : decode prog_7_method_34_code 28 = .ok (.iload 4, 2) := by decide +kernel
theorem d_Mo_match_30 : decode prog_7_method_34_code 30 = .ok (.invokevirtual 116, 3) := by decide +kernel
theorem d_Mo_match_33 : decode prog_7_method_34_code 33 = .ok (.ireturn, 1) := by decide +kernel
theorem d_La_law_0 : decode code 0 = .ok (.new 7, 3) := by decide +kernel
theorem d_La_law_3 : decode code 3 = .ok (.dup, 1) := by decide +kernel
theorem d_La_law_4 : decode code 4 = .ok (.aload_n 0, 1) := by decide +kernel
theorem d_La_law_5 : decode code 5 = .ok (.iconst 0, 1) := by decide +kernel
theorem d_La_law_6 : decode code 6 = .ok (.invokestatic 9, 3) := by decide +kernel
theorem d_La_law_9 : decode code 9 = .ok (.invokespecial 15, 3) := by decide +kernel
theorem d_La_law_12 : decode code 12 = .ok (.astore_n 1, 1) := by decide +kernel
theorem d_La_law_13 : decode code 13 = .ok (.new 18, 3) := by decide +kernel
theorem d_La_law_16 : decode code 16 = .ok (.dup, 1) := by decide +kernel
theorem d_La_law_17 : decode code 17 = .ok (.aload_n 0, 1) := by decide +kernel
theorem d_La_law_18 : decode code 18 = .ok (.iconst 0, 1) := by decide +kernel
theorem d_La_law_19 : decode code 19 = .ok (.invokestatic 9, 3) := by decide +kernel
theorem d_La_law_22 : decode code 22 = .ok (.invokespecial 20, 3) := by decide +kernel
theorem d_La_law_25 : decode code 25 = .ok (.astore_n 2, 1) := by decide +kernel
theorem d_La_law_26 : decode code 26 = .ok (.iconst 1, 1) := by decide +kernel
theorem d_La_law_27 : decode code 27 = .ok (.istore_n 3, 1) := by decide +kernel
theorem d_La_law_28 : decode code 28 = .ok (.iload_n 3, 1) := by decide +kernel
theorem d_La_law_29 : decode code 29 = .ok (.aload_n 0, 1) := by decide +kernel
theorem d_La_law_30 : decode code 30 = .ok (.arraylength, 1) := by decide +kernel
theorem d_La_law_31 : decode code 31 = .ok (.iconst 5, 1) := by decide +kernel
theorem d_La_law_32 : decode code 32 = .ok (.isub, 1) := by decide +kernel
theorem d_La_law_33 : decode code 33 = .ok (.if_icmp .gt 621, 3) := by decide +kernel
theorem d_La_law_36 : decode code 36 = .ok (.aload_n 0, 1) := by decide +kernel
theorem d_La_law_37 : decode code 37 = .ok (.iload_n 3, 1) := by decide +kernel
theorem d_La_law_38 : decode code 38 = .ok (.iaload, 1) := by decide +kernel
theorem d_La_law_39 : decode code 39 = .ok (.bipush 15, 2) := by decide +kernel
theorem d_La_law_41 : decode code 41 = .ok (.iand, 1) := by decide +kernel
theorem d_La_law_42 : decode code 42 = .ok (.tableswitch 606 0 15 #[78, 131, 142, 155, 168, 181, 205, 238, 261, 284, 297, 320, 354, 407, 470, 533], 78) := by decide +kernel
theorem d_La_law_120 : decode code 120 = .ok (.aload_n 1, 1) := by decide +kernel
theorem d_La_law_121 : decode code 121 = .ok (.aload_n 0, 1) := by decide +kernel
theorem d_La_law_122 : decode code 122 = .ok (.iload_n 3, 1) := by decide +kernel
theorem d_La_law_123 : decode code 123 = .ok (.iconst 1, 1) := by decide +kernel
theorem d_La_law_124 : decode code 124 = .ok (.iadd, 1) := by decide +kernel
theorem d_La_law_125 : decode code 125 = .ok (.iaload, 1) := by decide +kernel
theorem d_La_law_126 : decode code 126 = .ok (.i2l, 1) := by decide +kernel
theorem d_La_law_127 : decode code 127 = .ok (.bipush 32, 2) := by decide +kernel
theorem d_La_law_129 : decode code 129 = .ok (.lshl, 1) := by decide +kernel
theorem d_La_law_130 : decode code 130 = .ok (.aload_n 0, 1) := by decide +kernel
theorem d_La_law_131 : decode code 131 = .ok (.iload_n 3, 1) := by decide +kernel
theorem d_La_law_132 : decode code 132 = .ok (.iconst 2, 1) := by decide +kernel
theorem d_La_law_133 : decode code 133 = .ok (.iadd, 1) := by decide +kernel
theorem d_La_law_134 : decode code 134 = .ok (.iaload, 1) := by decide +kernel
theorem d_La_law_135 : decode code 135 = .ok (.i2l, 1) := by decide +kernel
theorem d_La_law_136 : decode code 136 = .ok (.ldc2_w 21, 3) := by decide +kernel
theorem d_La_law_139 : decode code 139 = .ok (.land, 1) := by decide +kernel
theorem d_La_law_140 : decode code 140 = .ok (.lor, 1) := by decide +kernel
theorem d_La_law_141 : decode code 141 = .ok (.invokevirtual 23, 3) := by decide +kernel
theorem d_La_law_144 : decode code 144 = .ok (.aload_n 2, 1) := by decide +kernel
theorem d_La_law_145 : decode code 145 = .ok (.aload_n 0, 1) := by decide +kernel
theorem d_La_law_146 : decode code 146 = .ok (.iload_n 3, 1) := by decide +kernel
theorem d_La_law_147 : decode code 147 = .ok (.iconst 1, 1) := by decide +kernel
theorem d_La_law_148 : decode code 148 = .ok (.iadd, 1) := by decide +kernel
theorem d_La_law_149 : decode code 149 = .ok (.iaload, 1) := by decide +kernel
theorem d_La_law_150 : decode code 150 = .ok (.i2l, 1) := by decide +kernel
theorem d_La_law_151 : decode code 151 = .ok (.bipush 32, 2) := by decide +kernel
theorem d_La_law_153 : decode code 153 = .ok (.lshl, 1) := by decide +kernel
theorem d_La_law_154 : decode code 154 = .ok (.aload_n 0, 1) := by decide +kernel
theorem d_La_law_155 : decode code 155 = .ok (.iload_n 3, 1) := by decide +kernel
theorem d_La_law_156 : decode code 156 = .ok (.iconst 2, 1) := by decide +kernel
theorem d_La_law_157 : decode code 157 = .ok (.iadd, 1) := by decide +kernel
theorem d_La_law_158 : decode code 158 = .ok (.iaload, 1) := by decide +kernel
theorem d_La_law_159 : decode code 159 = .ok (.i2l, 1) := by decide +kernel
theorem d_La_law_160 : decode code 160 = .ok (.ldc2_w 21, 3) := by decide +kernel
theorem d_La_law_163 : decode code 163 = .ok (.land, 1) := by decide +kernel
theorem d_La_law_164 : decode code 164 = .ok (.lor, 1) := by decide +kernel
theorem d_La_law_165 : decode code 165 = .ok (.invokevirtual 27, 3) := by decide +kernel
theorem d_La_law_168 : decode code 168 = .ok (.if_icmp .eq 480, 3) := by decide +kernel
theorem d_La_law_171 : decode code 171 = .ok (.iconst 0, 1) := by decide +kernel
theorem d_La_law_172 : decode code 172 = .ok (.ireturn, 1) := by decide +kernel
theorem d_La_law_173 : decode code 173 = .ok (.aload_n 1, 1) := by decide +kernel
theorem d_La_law_174 : decode code 174 = .ok (.invokevirtual 28, 3) := by decide +kernel
theorem d_La_law_177 : decode code 177 = .ok (.aload_n 2, 1) := by decide +kernel
theorem d_La_law_178 : decode code 178 = .ok (.invokevirtual 31, 3) := by decide +kernel
theorem d_La_law_181 : decode code 181 = .ok (.goto 467, 3) := by decide +kernel
theorem d_La_law_184 : decode code 184 = .ok (.aload_n 1, 1) := by decide +kernel
theorem d_La_law_185 : decode code 185 = .ok (.invokevirtual 32, 3) := by decide +kernel
theorem d_La_law_188 : decode code 188 = .ok (.aload_n 2, 1) := by decide +kernel
theorem d_La_law_189 : decode code 189 = .ok (.invokevirtual 36, 3) := by decide +kernel
theorem d_La_law_192 : decode code 192 = .ok (.if_icmp .eq 456, 3) := by decide +kernel
theorem d_La_law_195 : decode code 195 = .ok (.iconst 0, 1) := by decide +kernel
theorem d_La_law_196 : decode code 196 = .ok (.ireturn, 1) := by decide +kernel
theorem d_La_law_197 : decode code 197 = .ok (.aload_n 1, 1) := by decide +kernel
theorem d_La_law_198 : decode code 198 = .ok (.invokevirtual 37, 3) := by decide +kernel
theorem d_La_law_201 : decode code 201 = .ok (.aload_n 2, 1) := by decide +kernel
theorem d_La_law_202 : decode code 202 = .ok (.invokevirtual 41, 3) := by decide +kernel
theorem d_La_law_205 : decode code 205 = .ok (.if_icmp .eq 443, 3) := by decide +kernel
theorem d_La_law_208 : decode code 208 = .ok (.iconst 0, 1) := by decide +kernel
theorem d_La_law_209 : decode code 209 = .ok (.ireturn, 1) := by decide +kernel
theorem d_La_law_210 : decode code 210 = .ok (.aload_n 1, 1) := by decide +kernel
theorem d_La_law_211 : decode code 211 = .ok (.invokevirtual 42, 3) := by decide +kernel
theorem d_La_law_214 : decode code 214 = .ok (.aload_n 2, 1) := by decide +kernel
theorem d_La_law_215 : decode code 215 = .ok (.invokevirtual 45, 3) := by decide +kernel
theorem d_La_law_218 : decode code 218 = .ok (.if_icmp .eq 430, 3) := by decide +kernel
theorem d_La_law_221 : decode code 221 = .ok (.iconst 0, 1) := by decide +kernel
theorem d_La_law_222 : decode code 222 = .ok (.ireturn, 1) := by decide +kernel
theorem d_La_law_223 : decode code 223 = .ok (.aload_n 1, 1) := by decide +kernel
theorem d_La_law_224 : decode code 224 = .ok (.aload_n 0, 1) := by decide +kernel
theorem d_La_law_225 : decode code 225 = .ok (.iload_n 3, 1) := by decide +kernel
theorem d_La_law_226 : decode code 226 = .ok (.iconst 1, 1) := by decide +kernel
theorem d_La_law_227 : decode code 227 = .ok (.iadd, 1) := by decide +kernel
theorem d_La_law_228 : decode code 228 = .ok (.iaload, 1) := by decide +kernel
theorem d_La_law_229 : decode code 229 = .ok (.invokevirtual 46, 3) := by decide +kernel
theorem d_La_law_232 : decode code 232 = .ok (.aload_n 2, 1) := by decide +kernel
theorem d_La_law_233 : decode code 233 = .ok (.aload_n 0, 1) := by decide +kernel
theorem d_La_law_234 : decode code 234 = .ok (.iload_n 3, 1) := by decide +kernel
theorem d_La_law_235 : decode code 235 = .ok (.iconst 1, 1) := by decide +kernel
theorem d_La_law_236 : decode code 236 = .ok (.iadd, 1) := by decide +kernel
theorem d_La_law_237 : decode code 237 = .ok (.iaload, 1) := by decide +kernel
theorem d_La_law_238 : decode code 238 = .ok (.invokevirtual 50, 3) := by decide +kernel
theorem d_La_law_241 : decode code 241 = .ok (.lcmp, 1) := by decide +kernel
theorem d_La_law_242 : decode code 242 = .ok (.ifCond .eq 406, 3) := by decide +kernel
theorem d_La_law_245 : decode code 245 = .ok (.iconst 0, 1) := by decide +kernel
theorem d_La_law_246 : decode code 246 = .ok (.ireturn, 1) := by decide +kernel
theorem d_La_law_247 : decode code 247 = .ok (.aload_n 1, 1) := by decide +kernel
theorem d_La_law_248 : decode code 248 = .ok (.aload_n 0, 1) := by decide +kernel
theorem d_La_law_249 : decode code 249 = .ok (.iload_n 3, 1) := by decide +kernel
theorem d_La_law_250 : decode code 250 = .ok (.iconst 1, 1) := by decide +kernel
theorem d_La_law_251 : decode code 251 = .ok (.iadd, 1) := by decide +kernel
theorem d_La_law_252 : decode code 252 = .ok (.iaload, 1) := by decide +kernel
theorem d_La_law_253 : decode code 253 = .ok (.aload_n 0, 1) := by decide +kernel
theorem d_La_law_254 : decode code 254 = .ok (.iload_n 3, 1) := by decide +kernel
theorem d_La_law_255 : decode code 255 = .ok (.iconst 2, 1) := by decide +kernel
theorem d_La_law_256 : decode code 256 = .ok (.iadd, 1) := by decide +kernel
theorem d_La_law_257 : decode code 257 = .ok (.iaload, 1) := by decide +kernel
theorem d_La_law_258 : decode code 258 = .ok (.invokevirtual 51, 3) := by decide +kernel
theorem d_La_law_261 : decode code 261 = .ok (.aload_n 2, 1) := by decide +kernel
theorem d_La_law_262 : decode code 262 = .ok (.aload_n 0, 1) := by decide +kernel
theorem d_La_law_263 : decode code 263 = .ok (.iload_n 3, 1) := by decide +kernel
theorem d_La_law_264 : decode code 264 = .ok (.iconst 1, 1) := by decide +kernel
theorem d_La_law_265 : decode code 265 = .ok (.iadd, 1) := by decide +kernel
theorem d_La_law_266 : decode code 266 = .ok (.iaload, 1) := by decide +kernel
theorem d_La_law_267 : decode code 267 = .ok (.aload_n 0, 1) := by decide +kernel
theorem d_La_law_268 : decode code 268 = .ok (.iload_n 3, 1) := by decide +kernel
theorem d_La_law_269 : decode code 269 = .ok (.iconst 2, 1) := by decide +kernel
theorem d_La_law_270 : decode code 270 = .ok (.iadd, 1) := by decide +kernel
theorem d_La_law_271 : decode code 271 = .ok (.iaload, 1) := by decide +kernel
theorem d_La_law_272 : decode code 272 = .ok (.invokevirtual 55, 3) := by decide +kernel
theorem d_La_law_275 : decode code 275 = .ok (.if_icmp .eq 373, 3) := by decide +kernel
theorem d_La_law_278 : decode code 278 = .ok (.iconst 0, 1) := by decide +kernel
theorem d_La_law_279 : decode code 279 = .ok (.ireturn, 1) := by decide +kernel
theorem d_La_law_280 : decode code 280 = .ok (.aload_n 1, 1) := by decide +kernel
theorem d_La_law_281 : decode code 281 = .ok (.aload_n 0, 1) := by decide +kernel
theorem d_La_law_282 : decode code 282 = .ok (.iload_n 3, 1) := by decide +kernel
theorem d_La_law_283 : decode code 283 = .ok (.iconst 1, 1) := by decide +kernel
theorem d_La_law_284 : decode code 284 = .ok (.iadd, 1) := by decide +kernel
theorem d_La_law_285 : decode code 285 = .ok (.iaload, 1) := by decide +kernel
theorem d_La_law_286 : decode code 286 = .ok (.invokevirtual 56, 3) := by decide +kernel
theorem d_La_law_289 : decode code 289 = .ok (.aload_n 2, 1) := by decide +kernel
theorem d_La_law_290 : decode code 290 = .ok (.aload_n 0, 1) := by decide +kernel
theorem d_La_law_291 : decode code 291 = .ok (.iload_n 3, 1) := by decide +kernel
theorem d_La_law_292 : decode code 292 = .ok (.iconst 1, 1) := by decide +kernel
theorem d_La_law_293 : decode code 293 = .ok (.iadd, 1) := by decide +kernel
theorem d_La_law_294 : decode code 294 = .ok (.iaload, 1) := by decide +kernel
theorem d_La_law_295 : decode code 295 = .ok (.invokevirtual 60, 3) := by decide +kernel
theorem d_La_law_298 : decode code 298 = .ok (.if_icmp .eq 350, 3) := by decide +kernel
theorem d_La_law_301 : decode code 301 = .ok (.iconst 0, 1) := by decide +kernel
theorem d_La_law_302 : decode code 302 = .ok (.ireturn, 1) := by decide +kernel
theorem d_La_law_303 : decode code 303 = .ok (.aload_n 1, 1) := by decide +kernel
theorem d_La_law_304 : decode code 304 = .ok (.aload_n 0, 1) := by decide +kernel
theorem d_La_law_305 : decode code 305 = .ok (.iload_n 3, 1) := by decide +kernel
theorem d_La_law_306 : decode code 306 = .ok (.iconst 1, 1) := by decide +kernel
theorem d_La_law_307 : decode code 307 = .ok (.iadd, 1) := by decide +kernel
theorem d_La_law_308 : decode code 308 = .ok (.iaload, 1) := by decide +kernel
theorem d_La_law_309 : decode code 309 = .ok (.invokevirtual 61, 3) := by decide +kernel
theorem d_La_law_312 : decode code 312 = .ok (.aload_n 2, 1) := by decide +kernel
theorem d_La_law_313 : decode code 313 = .ok (.aload_n 0, 1) := by decide +kernel
theorem d_La_law_314 : decode code 314 = .ok (.iload_n 3, 1) := by decide +kernel
theorem d_La_law_315 : decode code 315 = .ok (.iconst 1, 1) := by decide +kernel
theorem d_La_law_316 : decode code 316 = .ok (.iadd, 1) := by decide +kernel
theorem d_La_law_317 : decode code 317 = .ok (.iaload, 1) := by decide +kernel
theorem d_La_law_318 : decode code 318 = .ok (.invokevirtual 64, 3) := by decide +kernel
theorem d_La_law_321 : decode code 321 = .ok (.if_icmp .eq 327, 3) := by decide +kernel
theorem d_La_law_324 : decode code 324 = .ok (.iconst 0, 1) := by decide +kernel
theorem d_La_law_325 : decode code 325 = .ok (.ireturn, 1) := by decide +kernel
theorem d_La_law_326 : decode code 326 = .ok (.aload_n 1, 1) := by decide +kernel
theorem d_La_law_327 : decode code 327 = .ok (.invokevirtual 65, 3) := by decide +kernel
theorem d_La_law_330 : decode code 330 = .ok (.aload_n 2, 1) := by decide +kernel
theorem d_La_law_331 : decode code 331 = .ok (.invokevirtual 68, 3) := by decide +kernel
theorem d_La_law_334 : decode code 334 = .ok (.if_icmp .eq 314, 3) := by decide +kernel
theorem d_La_law_337 : decode code 337 = .ok (.iconst 0, 1) := by decide +kernel
theorem d_La_law_338 : decode code 338 = .ok (.ireturn, 1) := by decide +kernel
theorem d_La_law_339 : decode code 339 = .ok (.aload_n 1, 1) := by decide +kernel
theorem d_La_law_340 : decode code 340 = .ok (.aload_n 0, 1) := by decide +kernel
theorem d_La_law_341 : decode code 341 = .ok (.iload_n 3, 1) := by decide +kernel
theorem d_La_law_342 : decode code 342 = .ok (.iconst 1, 1) := by decide +kernel
theorem d_La_law_343 : decode code 343 = .ok (.iadd, 1) := by decide +kernel
theorem d_La_law_344 : decode code 344 = .ok (.iaload, 1) := by decide +kernel
theorem d_La_law_345 : decode code 345 = .ok (.invokevirtual 69, 3) := by decide +kernel
theorem d_La_law_348 : decode code 348 = .ok (.aload_n 2, 1) := by decide +kernel
theorem d_La_law_349 : decode code 349 = .ok (.aload_n 0, 1) := by decide +kernel
theorem d_La_law_350 : decode code 350 = .ok (.iload_n 3, 1) := by decide +kernel
theorem d_La_law_351 : decode code 351 = .ok (.iconst 1, 1) := by decide +kernel
theorem d_La_law_352 : decode code 352 = .ok (.iadd, 1) := by decide +kernel
theorem d_La_law_353 : decode code 353 = .ok (.iaload, 1) := by decide +kernel
theorem d_La_law_354 : decode code 354 = .ok (.invokevirtual 72, 3) := by decide +kernel
theorem d_La_law_357 : decode code 357 = .ok (.if_icmp .eq 291, 3) := by decide +kernel
theorem d_La_law_360 : decode code 360 = .ok (.iconst 0, 1) := by decide +kernel
theorem d_La_law_361 : decode code 361 = .ok (.ireturn, 1) := by decide +kernel
theorem d_La_law_362 : decode code 362 = .ok (.aload_n 1, 1) := by decide +kernel
theorem d_La_law_363 : decode code 363 = .ok (.aload_n 0, 1) := by decide +kernel
theorem d_La_law_364 : decode code 364 = .ok (.iload_n 3, 1) := by decide +kernel
theorem d_La_law_365 : decode code 365 = .ok (.iconst 1, 1) := by decide +kernel
theorem d_La_law_366 : decode code 366 = .ok (.iadd, 1) := by decide +kernel
theorem d_La_law_367 : decode code 367 = .ok (.iaload, 1) := by decide +kernel
theorem d_La_law_368 : decode code 368 = .ok (.aload_n 0, 1) := by decide +kernel
theorem d_La_law_369 : decode code 369 = .ok (.iload_n 3, 1) := by decide +kernel
theorem d_La_law_370 : decode code 370 = .ok (.iconst 2, 1) := by decide +kernel
theorem d_La_law_371 : decode code 371 = .ok (.iadd, 1) := by decide +kernel
theorem d_La_law_372 : decode code 372 = .ok (.iaload, 1) := by decide +kernel
theorem d_La_law_373 : decode code 373 = .ok (.invokevirtual 73, 3) := by decide +kernel
theorem d_La_law_376 : decode code 376 = .ok (.aload_n 2, 1) := by decide +kernel
theorem d_La_law_377 : decode code 377 = .ok (.aload_n 0, 1) := by decide +kernel
theorem d_La_law_378 : decode code 378 = .ok (.iload_n 3, 1) := by decide +kernel
theorem d_La_law_379 : decode code 379 = .ok (.iconst 1, 1) := by decide +kernel
theorem d_La_law_380 : decode code 380 = .ok (.iadd, 1) := by decide +kernel
theorem d_La_law_381 : decode code 381 = .ok (.iaload, 1) := by decide +kernel
theorem d_La_law_382 : decode code 382 = .ok (.aload_n 0, 1) := by decide +kernel
theorem d_La_law_383 : decode code 383 = .ok (.iload_n 3, 1) := by decide +kernel
theorem d_La_law_384 : decode code 384 = .ok (.iconst 2, 1) := by decide +kernel
theorem d_La_law_385 : decode code 385 = .ok (.iadd, 1) := by decide +kernel
theorem d_La_law_386 : decode code 386 = .ok (.iaload, 1) := by decide +kernel
theorem d_La_law_387 : decode code 387 = .ok (.invokevirtual 77, 3) := by decide +kernel
theorem d_La_law_390 : decode code 390 = .ok (.lcmp, 1) := by decide +kernel
theorem d_La_law_391 : decode code 391 = .ok (.ifCond .eq 257, 3) := by decide +kernel
theorem d_La_law_394 : decode code 394 = .ok (.iconst 0, 1) := by decide +kernel
theorem d_La_law_395 : decode code 395 = .ok (.ireturn, 1) := by decide +kernel
theorem d_La_law_396 : decode code 396 = .ok (.aload_n 1, 1) := by decide +kernel
theorem d_La_law_397 : decode code 397 = .ok (.aload_n 0, 1) := by decide +kernel
theorem d_La_law_398 : decode code 398 = .ok (.iload_n 3, 1) := by decide +kernel
theorem d_La_law_399 : decode code 399 = .ok (.iconst 1, 1) := by decide +kernel
theorem d_La_law_400 : decode code 400 = .ok (.iadd, 1) := by decide +kernel
theorem d_La_law_401 : decode code 401 = .ok (.iaload, 1) := by decide +kernel
theorem d_La_law_402 : decode code 402 = .ok (.i2l, 1) := by decide +kernel
theorem d_La_law_403 : decode code 403 = .ok (.bipush 32, 2) := by decide +kernel
theorem d_La_law_405 : decode code 405 = .ok (.lshl, 1) := by decide +kernel
theorem d_La_law_406 : decode code 406 = .ok (.aload_n 0, 1) := by decide +kernel
theorem d_La_law_407 : decode code 407 = .ok (.iload_n 3, 1) := by decide +kernel
theorem d_La_law_408 : decode code 408 = .ok (.iconst 2, 1) := by decide +kernel
theorem d_La_law_409 : decode code 409 = .ok (.iadd, 1) := by decide +kernel
theorem d_La_law_410 : decode code 410 = .ok (.iaload, 1) := by decide +kernel
theorem d_La_law_411 : decode code 411 = .ok (.i2l, 1) := by decide +kernel
theorem d_La_law_412 : decode code 412 = .ok (.ldc2_w 21, 3) := by decide +kernel
theorem d_La_law_415 : decode code 415 = .ok (.land, 1) := by decide +kernel
theorem d_La_law_416 : decode code 416 = .ok (.lor, 1) := by decide +kernel
theorem d_La_law_417 : decode code 417 = .ok (.invokevirtual 78, 3) := by decide +kernel
theorem d_La_law_420 : decode code 420 = .ok (.aload_n 2, 1) := by decide +kernel
theorem d_La_law_421 : decode code 421 = .ok (.aload_n 0, 1) := by decide +kernel
theorem d_La_law_422 : decode code 422 = .ok (.iload_n 3, 1) := by decide +kernel
theorem d_La_law_423 : decode code 423 = .ok (.iconst 1, 1) := by decide +kernel
theorem d_La_law_424 : decode code 424 = .ok (.iadd, 1) := by decide +kernel
theorem d_La_law_425 : decode code 425 = .ok (.iaload, 1) := by decide +kernel
theorem d_La_law_426 : decode code 426 = .ok (.i2l, 1) := by decide +kernel
theorem d_La_law_427 : decode code 427 = .ok (.bipush 32, 2) := by decide +kernel
theorem d_La_law_429 : decode code 429 = .ok (.lshl, 1) := by decide +kernel
theorem d_La_law_430 : decode code 430 = .ok (.aload_n 0, 1) := by decide +kernel
theorem d_La_law_431 : decode code 431 = .ok (.iload_n 3, 1) := by decide +kernel
theorem d_La_law_432 : decode code 432 = .ok (.iconst 2, 1) := by decide +kernel
theorem d_La_law_433 : decode code 433 = .ok (.iadd, 1) := by decide +kernel
theorem d_La_law_434 : decode code 434 = .ok (.iaload, 1) := by decide +kernel
theorem d_La_law_435 : decode code 435 = .ok (.i2l, 1) := by decide +kernel
theorem d_La_law_436 : decode code 436 = .ok (.ldc2_w 21, 3) := by decide +kernel
theorem d_La_law_439 : decode code 439 = .ok (.land, 1) := by decide +kernel
theorem d_La_law_440 : decode code 440 = .ok (.lor, 1) := by decide +kernel
theorem d_La_law_441 : decode code 441 = .ok (.invokevirtual 82, 3) := by decide +kernel
theorem d_La_law_444 : decode code 444 = .ok (.if_icmp .eq 204, 3) := by decide +kernel
theorem d_La_law_447 : decode code 447 = .ok (.iconst 0, 1) := by decide +kernel
theorem d_La_law_448 : decode code 448 = .ok (.ireturn, 1) := by decide +kernel
theorem d_La_law_449 : decode code 449 = .ok (.aload_n 1, 1) := by decide +kernel
theorem d_La_law_450 : decode code 450 = .ok (.aload_n 0, 1) := by decide +kernel
theorem d_La_law_451 : decode code 451 = .ok (.iload_n 3, 1) := by decide +kernel
theorem d_La_law_452 : decode code 452 = .ok (.iconst 1, 1) := by decide +kernel
theorem d_La_law_453 : decode code 453 = .ok (.iadd, 1) := by decide +kernel
theorem d_La_law_454 : decode code 454 = .ok (.iaload, 1) := by decide +kernel
theorem d_La_law_455 : decode code 455 = .ok (.i2l, 1) := by decide +kernel
