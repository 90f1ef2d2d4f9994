theorem d_Si_init_0 : decode prog_1_method_1_code 0 = .ok (.aload_n 0, 1) := by decide +kernel
theorem d_Si_init_1 : decode prog_1_method_1_code 1 = .ok (.invokespecial 1, 3) := by decide +kernel
theorem d_Si_init_4 : decode prog_1_method_1_code 4 = .ok (.aload_n 0, 1) := by decide +kernel
theorem d_Si_init_5 : decode prog_1_method_1_code 5 = .ok (.bipush 97, 2) := by decide +kernel
theorem d_Si_init_7 : decode prog_1_method_1_code 7 = .ok (.newarray .int, 2) := by decide +kernel
theorem d_Si_init_9 : decode prog_1_method_1_code 9 = .ok (.putfield 9, 3) := by decide +kernel
theorem d_Si_init_12 : decode prog_1_method_1_code 12 = .ok (.aload_n 0, 1) := by decide +kernel
theorem d_Si_init_13 : decode prog_1_method_1_code 13 = .ok (.new 13, 3) := by decide +kernel
theorem d_Si_init_16 : decode prog_1_method_1_code 16 = .ok (.dup, 1) := by decide +kernel
theorem d_Si_init_17 : decode prog_1_method_1_code 17 = .ok (.invokespecial 15, 3) := by decide +kernel
theorem d_Si_init_20 : decode prog_1_method_1_code 20 = .ok (.putfield 16, 3) := by decide +kernel
theorem d_Si_init_23 : decode prog_1_method_1_code 23 = .ok (.aload_n 0, 1) := by decide +kernel
theorem d_Si_init_24 : decode prog_1_method_1_code 24 = .ok (.new 13, 3) := by decide +kernel
theorem d_Si_init_27 : decode prog_1_method_1_code 27 = .ok (.dup, 1) := by decide +kernel
theorem d_Si_init_28 : decode prog_1_method_1_code 28 = .ok (.invokespecial 15, 3) := by decide +kernel
theorem d_Si_init_31 : decode prog_1_method_1_code 31 = .ok (.putfield 20, 3) := by decide +kernel
theorem d_Si_init_34 : decode prog_1_method_1_code 34 = .ok (.aload_n 0, 1) := by decide +kernel
theorem d_Si_init_35 : decode prog_1_method_1_code 35 = .ok (.new 23, 3) := by decide +kernel
theorem d_Si_init_38 : decode prog_1_method_1_code 38 = .ok (.dup, 1) := by decide +kernel
theorem d_Si_init_39 : decode prog_1_method_1_code 39 = .ok (.invokespecial 25, 3) := by decide +kernel
theorem d_Si_init_42 : decode prog_1_method_1_code 42 = .ok (.putfield 26, 3) := by decide +kernel
theorem d_Si_init_45 : decode prog_1_method_1_code 45 = .ok (.aload_n 0, 1) := by decide +kernel
theorem d_Si_init_46 : decode prog_1_method_1_code 46 = .ok (.new 30, 3) := by decide +kernel
theorem d_Si_init_49 : decode prog_1_method_1_code 49 = .ok (.dup, 1) := by decide +kernel
theorem d_Si_init_50 : decode prog_1_method_1_code 50 = .ok (.invokespecial 32, 3) := by decide +kernel
theorem d_Si_init_53 : decode prog_1_method_1_code 53 = .ok (.putfield 33, 3) := by decide +kernel
theorem d_Si_init_56 : decode prog_1_method_1_code 56 = .ok (.aload_n 0, 1) := by decide +kernel
theorem d_Si_init_57 : decode prog_1_method_1_code 57 = .ok (.new 37, 3) := by decide +kernel
theorem d_Si_init_60 : decode prog_1_method_1_code 60 = .ok (.dup, 1) := by decide +kernel
theorem d_Si_init_61 : decode prog_1_method_1_code 61 = .ok (.iload_n 1, 1) := by decide +kernel
theorem d_Si_init_62 : decode prog_1_method_1_code 62 = .ok (.iconst 2, 1) := by decide +kernel
theorem d_Si_init_63 : decode prog_1_method_1_code 63 = .ok (.if_icmp .lt 13, 3) := by decide +kernel
theorem d_Si_init_66 : decode prog_1_method_1_code 66 = .ok (.iload_n 1, 1) := by decide +kernel
theorem d_Si_init_67 : decode prog_1_method_1_code 67 = .ok (.bipush 16, 2) := by decide +kernel
theorem d_Si_init_69 : decode prog_1_method_1_code 69 = .ok (.if_icmp .gt 7, 3) := by decide +kernel
theorem d_Si_init_72 : decode prog_1_method_1_code 72 = .ok (.iload_n 1, 1) := by decide +kernel
theorem d_Si_init_73 : decode prog_1_method_1_code 73 = .ok (.goto 4, 3) := by decide +kernel
theorem d_Si_init_76 : decode prog_1_method_1_code 76 = .ok (.iconst 4, 1) := by decide +kernel
theorem d_Si_init_77 : decode prog_1_method_1_code 77 = .ok (.invokespecial 39, 3) := by decide +kernel
theorem d_Si_init_80 : decode prog_1_method_1_code 80 = .ok (.putfield 42, 3) := by decide +kernel
theorem d_Si_init_83 : decode prog_1_method_1_code 83 = .ok (.return_, 1) := by decide +kernel
theorem d_Im_init_0 : decode prog_3_method_1_code 0 = .ok (.aload_n 0, 1) := by decide +kernel
theorem d_Im_init_1 : decode prog_3_method_1_code 1 = .ok (.invokespecial 3, 3) := by decide +kernel
theorem d_Im_init_4 : decode prog_3_method_1_code 4 = .ok (.aload_n 0, 1) := by decide +kernel
theorem d_Im_init_5 : decode prog_3_method_1_code 5 = .ok (.bipush 97, 2) := by decide +kernel
theorem d_Im_init_7 : decode prog_3_method_1_code 7 = .ok (.newarray .int, 2) := by decide +kernel
theorem d_Im_init_9 : decode prog_3_method_1_code 9 = .ok (.putfield 9, 3) := by decide +kernel
theorem d_Im_init_12 : decode prog_3_method_1_code 12 = .ok (.aload_n 0, 1) := by decide +kernel
theorem d_Im_init_13 : decode prog_3_method_1_code 13 = .ok (.bipush 28, 2) := by decide +kernel
theorem d_Im_init_15 : decode prog_3_method_1_code 15 = .ok (.newarray .int, 2) := by decide +kernel
theorem d_Im_init_17 : decode prog_3_method_1_code 17 = .ok (.putfield 15, 3) := by decide +kernel
theorem d_Im_init_20 : decode prog_3_method_1_code 20 = .ok (.aload_n 0, 1) := by decide +kernel
theorem d_Im_init_21 : decode prog_3_method_1_code 21 = .ok (.bipush 97, 2) := by decide +kernel
theorem d_Im_init_23 : decode prog_3_method_1_code 23 = .ok (.newarray .int, 2) := by decide +kernel
theorem d_Im_init_25 : decode prog_3_method_1_code 25 = .ok (.putfield 18, 3) := by decide +kernel
theorem d_Im_init_28 : decode prog_3_method_1_code 28 = .ok (.return_, 1) := by decide +kernel
theorem d_Pa_init_0 : decode prog_4_method_1_code 0 = .ok (.aload_n 0, 1) := by decide +kernel
theorem d_Pa_init_1 : decode prog_4_method_1_code 1 = .ok (.invokespecial 3, 3) := by decide +kernel
theorem d_Pa_init_4 : decode prog_4_method_1_code 4 = .ok (.aload_n 0, 1) := by decide +kernel
theorem d_Pa_init_5 : decode prog_4_method_1_code 5 = .ok (.bipush 8, 2) := by decide +kernel
theorem d_Pa_init_7 : decode prog_4_method_1_code 7 = .ok (.newarray .int, 2) := by decide +kernel
theorem d_Pa_init_9 : decode prog_4_method_1_code 9 = .ok (.putfield 9, 3) := by decide +kernel
theorem d_Pa_init_12 : decode prog_4_method_1_code 12 = .ok (.aload_n 0, 1) := by decide +kernel
theorem d_Pa_init_13 : decode prog_4_method_1_code 13 = .ok (.bipush 9, 2) := by decide +kernel
theorem d_Pa_init_15 : decode prog_4_method_1_code 15 = .ok (.newarray .int, 2) := by decide +kernel
theorem d_Pa_init_17 : decode prog_4_method_1_code 17 = .ok (.putfield 15, 3) := by decide +kernel
theorem d_Pa_init_20 : decode prog_4_method_1_code 20 = .ok (.return_, 1) := by decide +kernel
theorem d_Fi_init_0 : decode prog_2_method_1_code 0 = .ok (.aload_n 0, 1) := by decide +kernel
theorem d_Fi_init_1 : decode prog_2_method_1_code 1 = .ok (.invokespecial 3, 3) := by decide +kernel
theorem d_Fi_init_4 : decode prog_2_method_1_code 4 = .ok (.aload_n 0, 1) := by decide +kernel
theorem d_Fi_init_5 : decode prog_2_method_1_code 5 = .ok (.bipush 97, 2) := by decide +kernel
theorem d_Fi_init_7 : decode prog_2_method_1_code 7 = .ok (.newarray .int, 2) := by decide +kernel
theorem d_Fi_init_9 : decode prog_2_method_1_code 9 = .ok (.putfield 9, 3) := by decide +kernel
theorem d_Fi_init_12 : decode prog_2_method_1_code 12 = .ok (.return_, 1) := by decide +kernel
theorem d_Pl_init_0 : decode prog_5_method_1_code 0 = .ok (.aload_n 0, 1) := by decide +kernel
theorem d_Pl_init_1 : decode prog_5_method_1_code 1 = .ok (.invokespecial 3, 3) := by decide +kernel
theorem d_Pl_init_4 : decode prog_5_method_1_code 4 = .ok (.aload_n 0, 1) := by decide +kernel
theorem d_Pl_init_5 : decode prog_5_method_1_code 5 = .ok (.bipush 97, 2) := by decide +kernel
theorem d_Pl_init_7 : decode prog_5_method_1_code 7 = .ok (.newarray .int, 2) := by decide +kernel
theorem d_Pl_init_9 : decode prog_5_method_1_code 9 = .ok (.putfield 9, 3) := by decide +kernel
theorem d_Pl_init_12 : decode prog_5_method_1_code 12 = .ok (.aload_n 0, 1) := by decide +kernel
theorem d_Pl_init_13 : decode prog_5_method_1_code 13 = .ok (.bipush 97, 2) := by decide +kernel
theorem d_Pl_init_15 : decode prog_5_method_1_code 15 = .ok (.newarray .int, 2) := by decide +kernel
theorem d_Pl_init_17 : decode prog_5_method_1_code 17 = .ok (.putfield 15, 3) := by decide +kernel
theorem d_Pl_init_20 : decode prog_5_method_1_code 20 = .ok (.aload_n 0, 1) := by decide +kernel
theorem d_Pl_init_21 : decode prog_5_method_1_code 21 = .ok (.bipush 97, 2) := by decide +kernel
theorem d_Pl_init_23 : decode prog_5_method_1_code 23 = .ok (.newarray .int, 2) := by decide +kernel
theorem d_Pl_init_25 : decode prog_5_method_1_code 25 = .ok (.putfield 18, 3) := by decide +kernel
theorem d_Pl_init_28 : decode prog_5_method_1_code 28 = .ok (.aload_n 0, 1) := by decide +kernel
theorem d_Pl_init_29 : decode prog_5_method_1_code 29 = .ok (.bipush 98, 2) := by decide +kernel
theorem d_Pl_init_31 : decode prog_5_method_1_code 31 = .ok (.newarray .int, 2) := by decide +kernel
theorem d_Pl_init_33 : decode prog_5_method_1_code 33 = .ok (.putfield 21, 3) := by decide +kernel
theorem d_Pl_init_36 : decode prog_5_method_1_code 36 = .ok (.aload_n 0, 1) := by decide +kernel
theorem d_Pl_init_37 : decode prog_5_method_1_code 37 = .ok (.iload_n 1, 1) := by decide +kernel
theorem d_Pl_init_38 : decode prog_5_method_1_code 38 = .ok (.putfield 24, 3) := by decide +kernel
theorem d_Pl_init_41 : decode prog_5_method_1_code 41 = .ok (.return_, 1) := by decide +kernel
theorem d_Si_put_0 : decode prog_1_method_2_code 0 = .ok (.iconst 0, 1) := by decide +kernel
theorem d_Si_put_1 : decode prog_1_method_2_code 1 = .ok (.istore_n 3, 1) := by decide +kernel
theorem d_Si_put_2 : decode prog_1_method_2_code 2 = .ok (.iconst 0, 1) := by decide +kernel
theorem d_Si_put_3 : decode prog_1_method_2_code 3 = .ok (.istore 4, 2) := by decide +kernel
theorem d_Si_put_5 : decode prog_1_method_2_code 5 = .ok (.iload 4, 2) := by decide +kernel
theorem d_Si_put_7 : decode prog_1_method_2_code 7 = .ok (.bipush 8, 2) := by decide +kernel
theorem d_Si_put_9 : decode prog_1_method_2_code 9 = .ok (.if_icmp .ge 36, 3) := by decide +kernel
theorem d_Si_put_12 : decode prog_1_method_2_code 12 = .ok (.lload_n 1, 1) := by decide +kernel
theorem d_Si_put_13 : decode prog_1_method_2_code 13 = .ok (.iload 4, 2) := by decide +kernel
theorem d_Si_put_15 : decode prog_1_method_2_code 15 = .ok (.invokestatic 46, 3) := by decide +kernel
theorem d_Si_put_18 : decode prog_1_method_2_code 18 = .ok (.istore 5, 2) := by decide +kernel
theorem d_Si_put_20 : decode prog_1_method_2_code 20 = .ok (.iload 5, 2) := by decide +kernel
theorem d_Si_put_22 : decode prog_1_method_2_code 22 = .ok (.ifCond .eq 17, 3) := by decide +kernel
theorem d_Si_put_25 : decode prog_1_method_2_code 25 = .ok (.iload 5, 2) := by decide +kernel
theorem d_Si_put_27 : decode prog_1_method_2_code 27 = .ok (.invokestatic 50, 3) := by decide +kernel
theorem d_Si_put_30 : decode prog_1_method_2_code 30 = .ok (.iconst (-1), 1) := by decide +kernel
theorem d_Si_put_31 : decode prog_1_method_2_code 31 = .ok (.if_icmp .ne 5, 3) := by decide +kernel
theorem d_Si_put_34 : decode prog_1_method_2_code 34 = .ok (.iconst 0, 1) := by decide +kernel
theorem d_Si_put_35 : decode prog_1_method_2_code 35 = .ok (.ireturn, 1) := by decide +kernel
theorem d_Si_put_36 : decode prog_1_method_2_code 36 = .ok (.iinc 3 1, 3) := by decide +kernel
theorem d_Si_put_39 : decode prog_1_method_2_code 39 = .ok (.iinc 4 1, 3) := by decide +kernel
theorem d_Si_put_42 : decode prog_1_method_2_code 42 = .ok (.goto (-37), 3) := by decide +kernel
theorem d_Si_put_45 : decode prog_1_method_2_code 45 = .ok (.aload_n 0, 1) := by decide +kernel
theorem d_Si_put_46 : decode prog_1_method_2_code 46 = .ok (.getfield 54, 3) := by decide +kernel
theorem d_Si_put_49 : decode prog_1_method_2_code 49 = .ok (.iload_n 3, 1) := by decide +kernel
theorem d_Si_put_50 : decode prog_1_method_2_code 50 = .ok (.iadd, 1) := by decide +kernel
theorem d_Si_put_51 : decode prog_1_method_2_code 51 = .ok (.bipush 97, 2) := by decide +kernel
theorem d_Si_put_53 : decode prog_1_method_2_code 53 = .ok (.if_icmp .le 5, 3) := by decide +kernel
theorem d_Si_put_56 : decode prog_1_method_2_code 56 = .ok (.iconst 0, 1) := by decide +kernel
theorem d_Si_put_57 : decode prog_1_method_2_code 57 = .ok (.ireturn, 1) := by decide +kernel
theorem d_Si_put_58 : decode prog_1_method_2_code 58 = .ok (.iconst 0, 1) := by decide +kernel
theorem d_Si_put_59 : decode prog_1_method_2_code 59 = .ok (.istore 4, 2) := by decide +kernel
theorem d_Si_put_61 : decode prog_1_method_2_code 61 = .ok (.iload 4, 2) := by decide +kernel
theorem d_Si_put_63 : decode prog_1_method_2_code 63 = .ok (.bipush 8, 2) := by decide +kernel
theorem d_Si_put_65 : decode prog_1_method_2_code 65 = .ok (.if_icmp .ge 46, 3) := by decide +kernel
theorem d_Si_put_68 : decode prog_1_method_2_code 68 = .ok (.lload_n 1, 1) := by decide +kernel
theorem d_Si_put_69 : decode prog_1_method_2_code 69 = .ok (.iload 4, 2) := by decide +kernel
theorem d_Si_put_71 : decode prog_1_method_2_code 71 = .ok (.invokestatic 46, 3) := by decide +kernel
theorem d_Si_put_74 : decode prog_1_method_2_code 74 = .ok (.istore 5, 2) := by decide +kernel
theorem d_Si_put_76 : decode prog_1_method_2_code 76 = .ok (.iload 5, 2) := by decide +kernel
theorem d_Si_put_78 : decode prog_1_method_2_code 78 = .ok (.ifCond .eq 27, 3) := by decide +kernel
theorem d_Si_put_81 : decode prog_1_method_2_code 81 = .ok (.aload_n 0, 1) := by decide +kernel
theorem d_Si_put_82 : decode prog_1_method_2_code 82 = .ok (.getfield 9, 3) := by decide +kernel
theorem d_Si_put_85 : decode prog_1_method_2_code 85 = .ok (.aload_n 0, 1) := by decide +kernel
theorem d_Si_put_86 : decode prog_1_method_2_code 86 = .ok (.getfield 54, 3) := by decide +kernel
theorem d_Si_put_89 : decode prog_1_method_2_code 89 = .ok (.iload 5, 2) := by decide +kernel
theorem d_Si_put_91 : decode prog_1_method_2_code 91 = .ok (.invokestatic 50, 3) := by decide +kernel
theorem d_Si_put_94 : decode prog_1_method_2_code 94 = .ok (.iastore, 1) := by decide +kernel
theorem d_Si_put_95 : decode prog_1_method_2_code 95 = .ok (.aload_n 0, 1) := by decide +kernel
theorem d_Si_put_96 : decode prog_1_method_2_code 96 = .ok (.dup, 1) := by decide +kernel
theorem d_Si_put_97 : decode prog_1_method_2_code 97 = .ok (.getfield 54, 3) := by decide +kernel
theorem d_Si_put_100 : decode prog_1_method_2_code 100 = .ok (.iconst 1, 1) := by decide +kernel
theorem d_Si_put_101 : decode prog_1_method_2_code 101 = .ok (.iadd, 1) := by decide +kernel
theorem d_Si_put_102 : decode prog_1_method_2_code 102 = .ok (.putfield 54, 3) := by decide +kernel
theorem d_Si_put_105 : decode prog_1_method_2_code 105 = .ok (.iinc 4 1, 3) := by decide +kernel
theorem d_Si_put_108 : decode prog_1_method_2_code 108 = .ok (.goto (-47), 3) := by decide +kernel
theorem d_Si_put_111 : decode prog_1_method_2_code 111 = .ok (.iconst 1, 1) := by decide +kernel
theorem d_Si_put_112 : decode prog_1_method_2_code 112 = .ok (.ireturn, 1) := by decide +kernel
theorem d_Si_codeAt_0 : decode prog_1_method_24_code 0 = .ok (.lload_n 0, 1) := by decide +kernel
theorem d_Si_codeAt_1 : decode prog_1_method_24_code 1 = .ok (.bipush 8, 2) := by decide +kernel
theorem d_Si_codeAt_3 : decode prog_1_method_24_code 3 = .ok (.iload_n 2, 1) := by decide +kernel
theorem d_Si_codeAt_4 : decode prog_1_method_24_code 4 = .ok (.imul, 1) := by decide +kernel
theorem d_Si_codeAt_5 : decode prog_1_method_24_code 5 = .ok (.lushr, 1) := by decide +kernel
theorem d_Si_codeAt_6 : decode prog_1_method_24_code 6 = .ok (.l2i, 1) := by decide +kernel
theorem d_Si_codeAt_7 : decode prog_1_method_24_code 7 = .ok (.sipush 255, 3) := by decide +kernel
theorem d_Si_codeAt_10 : decode prog_1_method_24_code 10 = .ok (.iand, 1) := by decide +kernel
theorem d_Si_codeAt_11 : decode prog_1_method_24_code 11 = .ok (.ireturn, 1) := by decide +kernel
theorem d_Si_symbolOf_0 : decode prog_1_method_26_code 0 = .ok (.iload_n 0, 1) := by decide +kernel
theorem d_Si_symbolOf_1 : decode prog_1_method_26_code 1 = .ok (.bipush 36, 2) := by decide +kernel
theorem d_Si_symbolOf_3 : decode prog_1_method_26_code 3 = .ok (.if_icmp .ne 5, 3) := by decide +kernel
theorem d_Si_symbolOf_6 : decode prog_1_method_26_code 6 = .ok (.iconst 0, 1) := by decide +kernel
theorem d_Si_symbolOf_7 : decode prog_1_method_26_code 7 = .ok (.ireturn, 1) := by decide +kernel
theorem d_Si_symbolOf_8 : decode prog_1_method_26_code 8 = .ok (.iload_n 0, 1) := by decide +kernel
theorem d_Si_symbolOf_9 : decode prog_1_method_26_code 9 = .ok (.bipush 124, 2) := by decide +kernel
theorem d_Si_symbolOf_11 : decode prog_1_method_26_code 11 = .ok (.if_icmp .ne 5, 3) := by decide +kernel
theorem d_Si_symbolOf_14 : decode prog_1_method_26_code 14 = .ok (.iconst 1, 1) := by decide +kernel
theorem d_Si_symbolOf_15 : decode prog_1_method_26_code 15 = .ok (.ireturn, 1) := by decide +kernel
theorem d_Si_symbolOf_16 : decode prog_1_method_26_code 16 = .ok (.iload_n 0, 1) := by decide +kernel
theorem d_Si_symbolOf_17 : decode prog_1_method_26_code 17 = .ok (.bipush 97, 2) := by decide +kernel
theorem d_Si_symbolOf_19 : decode prog_1_method_26_code 19 = .ok (.if_icmp .lt 18, 3) := by decide +kernel
theorem d_Si_symbolOf_22 : decode prog_1_method_26_code 22 = .ok (.iload_n 0, 1) := by decide +kernel
theorem d_Si_symbolOf_23 : decode prog_1_method_26_code 23 = .ok (.bipush 122, 2) := by decide +kernel
theorem d_Si_symbolOf_25 : decode prog_1_method_26_code 25 = .ok (.if_icmp .gt 12, 3) := by decide +kernel
theorem d_Si_symbolOf_28 : decode prog_1_method_26_code 28 = .ok (.iconst 2, 1) := by decide +kernel
theorem d_Si_symbolOf_29 : decode prog_1_method_26_code 29 = .ok (.iload_n 0, 1) := by decide +kernel
theorem d_Si_symbolOf_30 : decode prog_1_method_26_code 30 = .ok (.iadd, 1) := by decide +kernel
theorem d_Si_symbolOf_31 : decode prog_1_method_26_code 31 = .ok (.bipush 97, 2) := by decide +kernel
theorem d_Si_symbolOf_33 : decode prog_1_method_26_code 33 = .ok (.isub, 1) := by decide +kernel
theorem d_Si_symbolOf_34 : decode prog_1_method_26_code 34 = .ok (.goto 4, 3) := by decide +kernel
theorem d_Si_symbolOf_37 : decode prog_1_method_26_code 37 = .ok (.iconst (-1), 1) := by decide +kernel
theorem d_Si_symbolOf_38 : decode prog_1_method_26_code 38 = .ok (.ireturn, 1) := by decide +kernel
theorem d_Si_scrap_0 : decode prog_1_method_3_code 0 = .ok (.aload_n 0, 1) := by decide +kernel
theorem d_Si_scrap_1 : decode prog_1_method_3_code 1 = .ok (.iconst 0, 1) := by decide +kernel
theorem d_Si_scrap_2 : decode prog_1_method_3_code 2 = .ok (.putfield 54, 3) := by decide +kernel
theorem d_Si_scrap_5 : decode prog_1_method_3_code 5 = .ok (.return_, 1) := by decide +kernel
theorem d_Si_build_0 : decode prog_1_method_4_code 0 = .ok (.aload_n 0, 1) := by decide +kernel
theorem d_Si_build_1 : decode prog_1_method_4_code 1 = .ok (.getfield 54, 3) := by decide +kernel
theorem d_Si_build_4 : decode prog_1_method_4_code 4 = .ok (.bipush 96, 2) := by decide +kernel
theorem d_Si_build_6 : decode prog_1_method_4_code 6 = .ok (.if_icmp .gt 10, 3) := by decide +kernel
theorem d_Si_build_9 : decode prog_1_method_4_code 9 = .ok (.aload_n 0, 1) := by decide +kernel
theorem d_Si_build_10 : decode prog_1_method_4_code 10 = .ok (.invokevirtual 58, 3) := by decide +kernel
theorem d_Si_build_13 : decode prog_1_method_4_code 13 = .ok (.ifCond .eq 5, 3) := by decide +kernel
theorem d_Si_build_16 : decode prog_1_method_4_code 16 = .ok (.iconst (-1), 1) := by decide +kernel
theorem d_Si_build_17 : decode prog_1_method_4_code 17 = .ok (.ireturn, 1) := by decide +kernel
theorem d_Si_build_18 : decode prog_1_method_4_code 18 = .ok (.aload_n 0, 1) := by decide +kernel
theorem d_Si_build_19 : decode prog_1_method_4_code 19 = .ok (.getfield 20, 3) := by decide +kernel
theorem d_Si_build_22 : decode prog_1_method_4_code 22 = .ok (.aload_n 0, 1) := by decide +kernel
theorem d_Si_build_23 : decode prog_1_method_4_code 23 = .ok (.getfield 9, 3) := by decide +kernel
theorem d_Si_build_26 : decode prog_1_method_4_code 26 = .ok (.aload_n 0, 1) := by decide +kernel
theorem d_Si_build_27 : decode prog_1_method_4_code 27 = .ok (.getfield 54, 3) := by decide +kernel
theorem d_Si_build_30 : decode prog_1_method_4_code 30 = .ok (.invokevirtual 62, 3) := by decide +kernel
theorem d_Si_build_33 : decode prog_1_method_4_code 33 = .ok (.aload_n 0, 1) := by decide +kernel
theorem d_Si_build_34 : decode prog_1_method_4_code 34 = .ok (.invokevirtual 66, 3) := by decide +kernel
theorem d_Si_build_37 : decode prog_1_method_4_code 37 = .ok (.aload_n 0, 1) := by decide +kernel
theorem d_Si_build_38 : decode prog_1_method_4_code 38 = .ok (.getfield 42, 3) := by decide +kernel
theorem d_Si_build_41 : decode prog_1_method_4_code 41 = .ok (.getfield 69, 3) := by decide +kernel
theorem d_Si_build_44 : decode prog_1_method_4_code 44 = .ok (.ireturn, 1) := by decide +kernel
theorem d_Si_draftHasEnd_0 : decode prog_1_method_18_code 0 = .ok (.iconst 0, 1) := by decide +kernel
theorem d_Si_draftHasEnd_1 : decode prog_1_method_18_code 1 = .ok (.istore_n 1, 1) := by decide +kernel
theorem d_Si_draftHasEnd_2 : decode prog_1_method_18_code 2 = .ok (.iload_n 1, 1) := by decide +kernel
theorem d_Si_draftHasEnd_3 : decode prog_1_method_18_code 3 = .ok (.aload_n 0, 1) := by decide +kernel
theorem d_Si_draftHasEnd_4 : decode prog_1_method_18_code 4 = .ok (.getfield 54, 3) := by decide +kernel
theorem d_Si_draftHasEnd_7 : decode prog_1_method_18_code 7 = .ok (.if_icmp .ge 20, 3) := by decide +kernel
theorem d_Si_draftHasEnd_10 : decode prog_1_method_18_code 10 = .ok (.aload_n 0, 1) := by decide +kernel
theorem d_Si_draftHasEnd_11 : decode prog_1_method_18_code 11 = .ok (.getfield 9, 3) := by decide +kernel
theorem d_Si_draftHasEnd_14 : decode prog_1_method_18_code 14 = .ok (.iload_n 1, 1) := by decide +kernel
theorem d_Si_draftHasEnd_15 : decode prog_1_method_18_code 15 = .ok (.iaload, 1) := by decide +kernel
theorem d_Si_draftHasEnd_16 : decode prog_1_method_18_code 16 = .ok (.ifCond .ne 5, 3) := by decide +kernel
theorem d_Si_draftHasEnd_19 : decode prog_1_method_18_code 19 = .ok (.iconst 1, 1) := by decide +kernel
theorem d_Si_draftHasEnd_20 : decode prog_1_method_18_code 20 = .ok (.ireturn, 1) := by decide +kernel
theorem d_Si_draftHasEnd_21 : decode prog_1_method_18_code 21 = .ok (.iinc 1 1, 3) := by decide +kernel
theorem d_Si_draftHasEnd_24 : decode prog_1_method_18_code 24 = .ok (.goto (-22), 3) := by decide +kernel
theorem d_Si_draftHasEnd_27 : decode prog_1_method_18_code 27 = .ok (.iconst 0, 1) := by decide +kernel
theorem d_Si_draftHasEnd_28 : decode prog_1_method_18_code 28 = .ok (.ireturn, 1) := by decide +kernel
theorem d_Im_makeFromText_0 : decode prog_3_method_3_code 0 = .ok (.aload_n 0, 1) := by decide +kernel
theorem d_Im_makeFromText_1 : decode prog_3_method_3_code 1 = .ok (.getfield 9, 3) := by decide +kernel
theorem d_Im_makeFromText_4 : decode prog_3_method_3_code 4 = .ok (.iconst 0, 1) := by decide +kernel
theorem d_Im_makeFromText_5 : decode prog_3_method_3_code 5 = .ok (.iconst 0, 1) := by decide +kernel
theorem d_Im_makeFromText_6 : decode prog_3_method_3_code 6 = .ok (.iastore, 1) := by decide +kernel
theorem d_Im_makeFromText_7 : decode prog_3_method_3_code 7 = .ok (.aload_n 0, 1) := by decide +kernel
theorem d_Im_makeFromText_8 : decode prog_3_method_3_code 8 = .ok (.iconst 1, 1) := by decide +kernel
theorem d_Im_makeFromText_9 : decode prog_3_method_3_code 9 = .ok (.putfield 27, 3) := by decide +kernel
theorem d_Im_makeFromText_12 : decode prog_3_method_3_code 12 = .ok (.iconst 0, 1) := by decide +kernel
theorem d_Im_makeFromText_13 : decode prog_3_method_3_code 13 = .ok (.istore_n 3, 1) := by decide +kernel
theorem d_Im_makeFromText_14 : decode prog_3_method_3_code 14 = .ok (.iload_n 2, 1) := by decide +kernel
theorem d_Im_makeFromText_15 : decode prog_3_method_3_code 15 = .ok (.iconst 1, 1) := by decide +kernel
theorem d_Im_makeFromText_16 : decode prog_3_method_3_code 16 = .ok (.isub, 1) := by decide +kernel
theorem d_Im_makeFromText_17 : decode prog_3_method_3_code 17 = .ok (.istore 4, 2) := by decide +kernel
theorem d_Im_makeFromText_19 : decode prog_3_method_3_code 19 = .ok (.iload 4, 2) := by decide +kernel
theorem d_Im_makeFromText_21 : decode prog_3_method_3_code 21 = .ok (.ifCond .lt 19, 3) := by decide +kernel
theorem d_Im_makeFromText_24 : decode prog_3_method_3_code 24 = .ok (.aload_n 0, 1) := by decide +kernel
theorem d_Im_makeFromText_25 : decode prog_3_method_3_code 25 = .ok (.aload_n 1, 1) := by decide +kernel
theorem d_Im_makeFromText_26 : decode prog_3_method_3_code 26 = .ok (.iload 4, 2) := by decide +kernel
theorem d_Im_makeFromText_28 : decode prog_3_method_3_code 28 = .ok (.iaload, 1) := by decide +kernel
theorem d_Im_makeFromText_29 : decode prog_3_method_3_code 29 = .ok (.iload_n 3, 1) := by decide +kernel
theorem d_Im_makeFromText_30 : decode prog_3_method_3_code 30 = .ok (.invokevirtual 34, 3) := by decide +kernel
theorem d_Im_makeFromText_33 : decode prog_3_method_3_code 33 = .ok (.istore_n 3, 1) := by decide +kernel
theorem d_Im_makeFromText_34 : decode prog_3_method_3_code 34 = .ok (.iinc 4 (-1), 3) := by decide +kernel
theorem d_Im_makeFromText_37 : decode prog_3_method_3_code 37 = .ok (.goto (-18), 3) := by decide +kernel
theorem d_Im_makeFromText_40 : decode prog_3_method_3_code 40 = .ok (.aload_n 0, 1) := by decide +kernel
theorem d_Im_makeFromText_41 : decode prog_3_method_3_code 41 = .ok (.invokevirtual 31, 3) := by decide +kernel
theorem d_Im_makeFromText_44 : decode prog_3_method_3_code 44 = .ok (.return_, 1) := by decide +kernel
theorem d_Im_putBefore_0 : decode prog_3_method_4_code 0 = .ok (.aload_n 0, 1) := by decide +kernel
theorem d_Im_putBefore_1 : decode prog_3_method_4_code 1 = .ok (.getfield 9, 3) := by decide +kernel
theorem d_Im_putBefore_4 : decode prog_3_method_4_code 4 = .ok (.iload_n 2, 1) := by decide +kernel
theorem d_Im_putBefore_5 : decode prog_3_method_4_code 5 = .ok (.iload_n 1, 1) := by decide +kernel
theorem d_Im_putBefore_6 : decode prog_3_method_4_code 6 = .ok (.iastore, 1) := by decide +kernel
theorem d_Im_putBefore_7 : decode prog_3_method_4_code 7 = .ok (.iconst 1, 1) := by decide +kernel
theorem d_Im_putBefore_8 : decode prog_3_method_4_code 8 = .ok (.aload_n 0, 1) := by decide +kernel
theorem d_Im_putBefore_9 : decode prog_3_method_4_code 9 = .ok (.iload_n 1, 1) := by decide +kernel
theorem d_Im_putBefore_10 : decode prog_3_method_4_code 10 = .ok (.invokevirtual 38, 3) := by decide +kernel
theorem d_Im_putBefore_13 : decode prog_3_method_4_code 13 = .ok (.iadd, 1) := by decide +kernel
theorem d_Im_putBefore_14 : decode prog_3_method_4_code 14 = .ok (.aload_n 0, 1) := by decide +kernel
theorem d_Im_putBefore_15 : decode prog_3_method_4_code 15 = .ok (.iload_n 1, 1) := by decide +kernel
theorem d_Im_putBefore_16 : decode prog_3_method_4_code 16 = .ok (.iload_n 2, 1) := by decide +kernel
theorem d_Im_putBefore_17 : decode prog_3_method_4_code 17 = .ok (.invokevirtual 42, 3) := by decide +kernel
theorem d_Im_putBefore_20 : decode prog_3_method_4_code 20 = .ok (.iadd, 1) := by decide +kernel
theorem d_Im_putBefore_21 : decode prog_3_method_4_code 21 = .ok (.istore_n 3, 1) := by decide +kernel
theorem d_Im_putBefore_22 : decode prog_3_method_4_code 22 = .ok (.aload_n 0, 1) := by decide +kernel
theorem d_Im_putBefore_23 : decode prog_3_method_4_code 23 = .ok (.getfield 9, 3) := by decide +kernel
theorem d_Im_putBefore_26 : decode prog_3_method_4_code 26 = .ok (.iload_n 3, 1) := by decide +kernel
theorem d_Im_putBefore_27 : decode prog_3_method_4_code 27 = .ok (.aload_n 0, 1) := by decide +kernel
theorem d_Im_putBefore_28 : decode prog_3_method_4_code 28 = .ok (.getfield 9, 3) := by decide +kernel
theorem d_Im_putBefore_31 : decode prog_3_method_4_code 31 = .ok (.iload_n 3, 1) := by decide +kernel
theorem d_Im_putBefore_32 : decode prog_3_method_4_code 32 = .ok (.iconst 1, 1) := by decide +kernel
theorem d_Im_putBefore_33 : decode prog_3_method_4_code 33 = .ok (.iadd, 1) := by decide +kernel
theorem d_Im_putBefore_34 : decode prog_3_method_4_code 34 = .ok (.aload_n 0, 1) := by decide +kernel
theorem d_Im_putBefore_35 : decode prog_3_method_4_code 35 = .ok (.getfield 27, 3) := by decide +kernel
theorem d_Im_putBefore_38 : decode prog_3_method_4_code 38 = .ok (.iload_n 3, 1) := by decide +kernel
theorem d_Im_putBefore_39 : decode prog_3_method_4_code 39 = .ok (.isub, 1) := by decide +kernel
theorem d_Im_putBefore_40 : decode prog_3_method_4_code 40 = .ok (.invokestatic 21, 3) := by decide +kernel
theorem d_Im_putBefore_43 : decode prog_3_method_4_code 43 = .ok (.aload_n 0, 1) := by decide +kernel
theorem d_Im_putBefore_44 : decode prog_3_method_4_code 44 = .ok (.getfield 9, 3) := by decide +kernel
theorem d_Im_putBefore_47 : decode prog_3_method_4_code 47 = .ok (.iload_n 3, 1) := by decide +kernel
theorem d_Im_putBefore_48 : decode prog_3_method_4_code 48 = .ok (.iconst 0, 1) := by decide +kernel
theorem d_Im_putBefore_49 : decode prog_3_method_4_code 49 = .ok (.iastore, 1) := by decide +kernel
theorem d_Im_putBefore_50 : decode prog_3_method_4_code 50 = .ok (.aload_n 0, 1) := by decide +kernel
theorem d_Im_putBefore_51 : decode prog_3_method_4_code 51 = .ok (.dup, 1) := by decide +kernel
theorem d_Im_putBefore_52 : decode prog_3_method_4_code 52 = .ok (.getfield 27, 3) := by decide +kernel
theorem d_Im_putBefore_55 : decode prog_3_method_4_code 55 = .ok (.iconst 1, 1) := by decide +kernel
theorem d_Im_putBefore_56 : decode prog_3_method_4_code 56 = .ok (.iadd, 1) := by decide +kernel
theorem d_Im_putBefore_57 : decode prog_3_method_4_code 57 = .ok (.putfield 27, 3) := by decide +kernel
theorem d_Im_putBefore_60 : decode prog_3_method_4_code 60 = .ok (.iload_n 3, 1) := by decide +kernel
theorem d_Im_putBefore_61 : decode prog_3_method_4_code 61 = .ok (.ireturn, 1) := by decide +kernel
theorem d_Im_lesserThan_0 : decode prog_3_method_5_code 0 = .ok (.iconst 0, 1) := by decide +kernel
theorem d_Im_lesserThan_1 : decode prog_3_method_5_code 1 = .ok (.istore_n 2, 1) := by decide +kernel
theorem d_Im_lesserThan_2 : decode prog_3_method_5_code 2 = .ok (.iconst 0, 1) := by decide +kernel
theorem d_Im_lesserThan_3 : decode prog_3_method_5_code 3 = .ok (.istore_n 3, 1) := by decide +kernel
theorem d_Im_lesserThan_4 : decode prog_3_method_5_code 4 = .ok (.iload_n 3, 1) := by decide +kernel
theorem d_Im_lesserThan_5 : decode prog_3_method_5_code 5 = .ok (.aload_n 0, 1) := by decide +kernel
theorem d_Im_lesserThan_6 : decode prog_3_method_5_code 6 = .ok (.getfield 27, 3) := by decide +kernel
theorem d_Im_lesserThan_9 : decode prog_3_method_5_code 9 = .ok (.if_icmp .ge 22, 3) := by decide +kernel
theorem d_Im_lesserThan_12 : decode prog_3_method_5_code 12 = .ok (.aload_n 0, 1) := by decide +kernel
theorem d_Im_lesserThan_13 : decode prog_3_method_5_code 13 = .ok (.getfield 9, 3) := by decide +kernel
theorem d_Im_lesserThan_16 : decode prog_3_method_5_code 16 = .ok (.iload_n 3, 1) := by decide +kernel
theorem d_Im_lesserThan_17 : decode prog_3_method_5_code 17 = .ok (.iaload, 1) := by decide +kernel
theorem d_Im_lesserThan_18 : decode prog_3_method_5_code 18 = .ok (.iload_n 1, 1) := by decide +kernel
theorem d_Im_lesserThan_19 : decode prog_3_method_5_code 19 = .ok (.if_icmp .ge 6, 3) := by decide +kernel
theorem d_Im_lesserThan_22 : decode prog_3_method_5_code 22 = .ok (.iinc 2 1, 3) := by decide +kernel
theorem d_Im_lesserThan_25 : decode prog_3_method_5_code 25 = .ok (.iinc 3 1, 3) := by decide +kernel
theorem d_Im_lesserThan_28 : decode prog_3_method_5_code 28 = .ok (.goto (-24), 3) := by decide +kernel
theorem d_Im_lesserThan_31 : decode prog_3_method_5_code 31 = .ok (.iload_n 2, 1) := by decide +kernel
theorem d_Im_lesserThan_32 : decode prog_3_method_5_code 32 = .ok (.ireturn, 1) := by decide +kernel
theorem d_Im_among_0 : decode prog_3_method_6_code 0 = .ok (.iconst 0, 1) := by decide +kernel
theorem d_Im_among_1 : decode prog_3_method_6_code 1 = .ok (.istore_n 3, 1) := by decide +kernel
theorem d_Im_among_2 : decode prog_3_method_6_code 2 = .ok (.iconst 0, 1) := by decide +kernel
theorem d_Im_among_3 : decode prog_3_method_6_code 3 = .ok (.istore 4, 2) := by decide +kernel
theorem d_Im_among_5 : decode prog_3_method_6_code 5 = .ok (.iload 4, 2) := by decide +kernel
theorem d_Im_among_7 : decode prog_3_method_6_code 7 = .ok (.iload_n 2, 1) := by decide +kernel
theorem d_Im_among_8 : decode prog_3_method_6_code 8 = .ok (.if_icmp .ge 23, 3) := by decide +kernel
theorem d_Im_among_11 : decode prog_3_method_6_code 11 = .ok (.aload_n 0, 1) := by decide +kernel
theorem d_Im_among_12 : decode prog_3_method_6_code 12 = .ok (.getfield 9, 3) := by decide +kernel
theorem d_Im_among_15 : decode prog_3_method_6_code 15 = .ok (.iload 4, 2) := by decide +kernel
theorem d_Im_among_17 : decode prog_3_method_6_code 17 = .ok (.iaload, 1) := by decide +kernel
theorem d_Im_among_18 : decode prog_3_method_6_code 18 = .ok (.iload_n 1, 1) := by decide +kernel
theorem d_Im_among_19 : decode prog_3_method_6_code 19 = .ok (.if_icmp .ne 6, 3) := by decide +kernel
theorem d_Im_among_22 : decode prog_3_method_6_code 22 = .ok (.iinc 3 1, 3) := by decide +kernel
theorem d_Im_among_25 : decode prog_3_method_6_code 25 = .ok (.iinc 4 1, 3) := by decide +kernel
theorem d_Im_among_28 : decode prog_3_method_6_code 28 = .ok (.goto (-23), 3) := by decide +kernel
theorem d_Im_among_31 : decode prog_3_method_6_code 31 = .ok (.iload_n 3, 1) := by decide +kernel
theorem d_Im_among_32 : decode prog_3_method_6_code 32 = .ok (.ireturn, 1) := by decide +kernel
theorem d_Im_link_0 : decode prog_3_method_7_code 0 = .ok (.iconst 0, 1) := by decide +kernel
theorem d_Im_link_1 : decode prog_3_method_7_code 1 = .ok (.istore_n 1, 1) := by decide +kernel
theorem d_Im_link_2 : decode prog_3_method_7_code 2 = .ok (.iconst 0, 1) := by decide +kernel
theorem d_Im_link_3 : decode prog_3_method_7_code 3 = .ok (.istore_n 2, 1) := by decide +kernel
theorem d_Im_link_4 : decode prog_3_method_7_code 4 = .ok (.iload_n 2, 1) := by decide +kernel
theorem d_Im_link_5 : decode prog_3_method_7_code 5 = .ok (.bipush 28, 2) := by decide +kernel
theorem d_Im_link_7 : decode prog_3_method_7_code 7 = .ok (.if_icmp .ge 52, 3) := by decide +kernel
theorem d_Im_link_10 : decode prog_3_method_7_code 10 = .ok (.aload_n 0, 1) := by decide +kernel
theorem d_Im_link_11 : decode prog_3_method_7_code 11 = .ok (.getfield 15, 3) := by decide +kernel
theorem d_Im_link_14 : decode prog_3_method_7_code 14 = .ok (.iload_n 2, 1) := by decide +kernel
theorem d_Im_link_15 : decode prog_3_method_7_code 15 = .ok (.iload_n 1, 1) := by decide +kernel
theorem d_Im_link_16 : decode prog_3_method_7_code 16 = .ok (.iastore, 1) := by decide +kernel
theorem d_Im_link_17 : decode prog_3_method_7_code 17 = .ok (.iconst 0, 1) := by decide +kernel
theorem d_Im_link_18 : decode prog_3_method_7_code 18 = .ok (.istore_n 3, 1) := by decide +kernel
theorem d_Im_link_19 : decode prog_3_method_7_code 19 = .ok (.iload_n 3, 1) := by decide +kernel
theorem d_Im_link_20 : decode prog_3_method_7_code 20 = .ok (.aload_n 0, 1) := by decide +kernel
theorem d_Im_link_21 : decode prog_3_method_7_code 21 = .ok (.getfield 27, 3) := by decide +kernel
theorem d_Im_link_24 : decode prog_3_method_7_code 24 = .ok (.if_icmp .ge 29, 3) := by decide +kernel
theorem d_Im_link_27 : decode prog_3_method_7_code 27 = .ok (.aload_n 0, 1) := by decide +kernel
theorem d_Im_link_28 : decode prog_3_method_7_code 28 = .ok (.getfield 9, 3) := by decide +kernel
theorem d_Im_link_31 : decode prog_3_method_7_code 31 = .ok (.iload_n 3, 1) := by decide +kernel
theorem d_Im_link_32 : decode prog_3_method_7_code 32 = .ok (.iaload, 1) := by decide +kernel
theorem d_Im_link_33 : decode prog_3_method_7_code 33 = .ok (.iload_n 2, 1) := by decide +kernel
theorem d_Im_link_34 : decode prog_3_method_7_code 34 = .ok (.if_icmp .ne 13, 3) := by decide +kernel
theorem d_Im_link_37 : decode prog_3_method_7_code 37 = .ok (.aload_n 0, 1) := by decide +kernel
theorem d_Im_link_38 : decode prog_3_method_7_code 38 = .ok (.getfield 18, 3) := by decide +kernel
theorem d_Im_link_41 : decode prog_3_method_7_code 41 = .ok (.iload_n 3, 1) := by decide +kernel
theorem d_Im_link_42 : decode prog_3_method_7_code 42 = .ok (.iload_n 1, 1) := by decide +kernel
theorem d_Im_link_43 : decode prog_3_method_7_code 43 = .ok (.iastore, 1) := by decide +kernel
theorem d_Im_link_44 : decode prog_3_method_7_code 44 = .ok (.iinc 1 1, 3) := by decide +kernel
theorem d_Im_link_47 : decode prog_3_method_7_code 47 = .ok (.iinc 3 1, 3) := by decide +kernel
theorem d_Im_link_50 : decode prog_3_method_7_code 50 = .ok (.goto (-31), 3) := by decide +kernel
theorem d_Im_link_53 : decode prog_3_method_7_code 53 = .ok (.iinc 2 1, 3) := by decide +kernel
theorem d_Im_link_56 : decode prog_3_method_7_code 56 = .ok (.goto (-52), 3) := by decide +kernel
theorem d_Im_link_59 : decode prog_3_method_7_code 59 = .ok (.return_, 1) := by decide +kernel
theorem d_Si_takeTried_0 : decode prog_1_method_19_code 0 = .ok (.aload_n 0, 1) := by decide +kernel
theorem d_Si_takeTried_1 : decode prog_1_method_19_code 1 = .ok (.getfield 16, 3) := by decide +kernel
theorem d_Si_takeTried_4 : decode prog_1_method_19_code 4 = .ok (.astore_n 1, 1) := by decide +kernel
theorem d_Si_takeTried_5 : decode prog_1_method_19_code 5 = .ok (.aload_n 0, 1) := by decide +kernel
theorem d_Si_takeTried_6 : decode prog_1_method_19_code 6 = .ok (.aload_n 0, 1) := by decide +kernel
theorem d_Si_takeTried_7 : decode prog_1_method_19_code 7 = .ok (.getfield 20, 3) := by decide +kernel
theorem d_Si_takeTried_10 : decode prog_1_method_19_code 10 = .ok (.putfield 16, 3) := by decide +kernel
theorem d_Si_takeTried_13 : decode prog_1_method_19_code 13 = .ok (.aload_n 0, 1) := by decide +kernel
theorem d_Si_takeTried_14 : decode prog_1_method_19_code 14 = .ok (.aload_n 1, 1) := by decide +kernel
theorem d_Si_takeTried_15 : decode prog_1_method_19_code 15 = .ok (.putfield 20, 3) := by decide +kernel
theorem d_Si_takeTried_18 : decode prog_1_method_19_code 18 = .ok (.aload_n 0, 1) := by decide +kernel
theorem d_Si_takeTried_19 : decode prog_1_method_19_code 19 = .ok (.getfield 42, 3) := by decide +kernel
theorem d_Si_takeTried_22 : decode prog_1_method_19_code 22 = .ok (.aload_n 0, 1) := by decide +kernel
theorem d_Si_takeTried_23 : decode prog_1_method_19_code 23 = .ok (.getfield 16, 3) := by decide +kernel
theorem d_Si_takeTried_26 : decode prog_1_method_19_code 26 = .ok (.invokevirtual 150, 3) := by decide +kernel
theorem d_Si_takeTried_29 : decode prog_1_method_19_code 29 = .ok (.aload_n 0, 1) := by decide +kernel
theorem d_Si_takeTried_30 : decode prog_1_method_19_code 30 = .ok (.iconst 0, 1) := by decide +kernel
theorem d_Si_takeTried_31 : decode prog_1_method_19_code 31 = .ok (.putfield 54, 3) := by decide +kernel
theorem d_Si_takeTried_34 : decode prog_1_method_19_code 34 = .ok (.return_, 1) := by decide +kernel
theorem d_Pl_readFrom_0 : decode prog_5_method_2_code 0 = .ok (.iconst 0, 1) := by decide +kernel
theorem d_Pl_readFrom_1 : decode prog_5_method_2_code 1 = .ok (.istore_n 2, 1) := by decide +kernel
theorem d_Pl_readFrom_2 : decode prog_5_method_2_code 2 = .ok (.aload_n 1, 1) := by decide +kernel
theorem d_Pl_readFrom_3 : decode prog_5_method_2_code 3 = .ok (.getfield 28, 3) := by decide +kernel
theorem d_Pl_readFrom_6 : decode prog_5_method_2_code 6 = .ok (.iconst 1, 1) := by decide +kernel
theorem d_Pl_readFrom_7 : decode prog_5_method_2_code 7 = .ok (.isub, 1) := by decide +kernel
theorem d_Pl_readFrom_8 : decode prog_5_method_2_code 8 = .ok (.istore_n 3, 1) := by decide +kernel
theorem d_Pl_readFrom_9 : decode prog_5_method_2_code 9 = .ok (.iload_n 3, 1) := by decide +kernel
theorem d_Pl_readFrom_10 : decode prog_5_method_2_code 10 = .ok (.ifCond .lt 77, 3) := by decide +kernel
theorem d_Pl_readFrom_13 : decode prog_5_method_2_code 13 = .ok (.iload_n 3, 1) := by decide +kernel
theorem d_Pl_readFrom_14 : decode prog_5_method_2_code 14 = .ok (.aload_n 0, 1) := by decide +kernel
theorem d_Pl_readFrom_15 : decode prog_5_method_2_code 15 = .ok (.getfield 24, 3) := by decide +kernel
theorem d_Pl_readFrom_18 : decode prog_5_method_2_code 18 = .ok (.irem, 1) := by decide +kernel
theorem d_Pl_readFrom_19 : decode prog_5_method_2_code 19 = .ok (.ifCond .ne 7, 3) := by decide +kernel
theorem d_Pl_readFrom_22 : decode prog_5_method_2_code 22 = .ok (.iconst 1, 1) := by decide +kernel
theorem d_Pl_readFrom_23 : decode prog_5_method_2_code 23 = .ok (.goto 4, 3) := by decide +kernel
theorem d_Pl_readFrom_26 : decode prog_5_method_2_code 26 = .ok (.iconst 0, 1) := by decide +kernel
theorem d_Pl_readFrom_27 : decode prog_5_method_2_code 27 = .ok (.istore 4, 2) := by decide +kernel
theorem d_Pl_readFrom_29 : decode prog_5_method_2_code 29 = .ok (.aload_n 0, 1) := by decide +kernel
theorem d_Pl_readFrom_30 : decode prog_5_method_2_code 30 = .ok (.getfield 15, 3) := by decide +kernel
theorem d_Pl_readFrom_33 : decode prog_5_method_2_code 33 = .ok (.iload_n 2, 1) := by decide +kernel
theorem d_Pl_readFrom_34 : decode prog_5_method_2_code 34 = .ok (.iload 4, 2) := by decide +kernel
theorem d_Pl_readFrom_36 : decode prog_5_method_2_code 36 = .ok (.ifCond .eq 7, 3) := by decide +kernel
theorem d_Pl_readFrom_39 : decode prog_5_method_2_code 39 = .ok (.iload_n 3, 1) := by decide +kernel
theorem d_Pl_readFrom_40 : decode prog_5_method_2_code 40 = .ok (.goto 4, 3) := by decide +kernel
theorem d_Pl_readFrom_43 : decode prog_5_method_2_code 43 = .ok (.iconst (-1), 1) := by decide +kernel
theorem d_Pl_readFrom_44 : decode prog_5_method_2_code 44 = .ok (.iastore, 1) := by decide +kernel
theorem d_Pl_readFrom_45 : decode prog_5_method_2_code 45 = .ok (.iload 4, 2) := by decide +kernel
theorem d_Pl_readFrom_47 : decode prog_5_method_2_code 47 = .ok (.ifCond .eq 15, 3) := by decide +kernel
theorem d_Pl_readFrom_50 : decode prog_5_method_2_code 50 = .ok (.aload_n 0, 1) := by decide +kernel
theorem d_Pl_readFrom_51 : decode prog_5_method_2_code 51 = .ok (.getfield 18, 3) := by decide +kernel
theorem d_Pl_readFrom_54 : decode prog_5_method_2_code 54 = .ok (.iload_n 3, 1) := by decide +kernel
theorem d_Pl_readFrom_55 : decode prog_5_method_2_code 55 = .ok (.aload_n 0, 1) := by decide +kernel
theorem d_Pl_readFrom_56 : decode prog_5_method_2_code 56 = .ok (.getfield 24, 3) := by decide +kernel
theorem d_Pl_readFrom_59 : decode prog_5_method_2_code 59 = .ok (.idiv, 1) := by decide +kernel
theorem d_Pl_readFrom_60 : decode prog_5_method_2_code 60 = .ok (.iload_n 2, 1) := by decide +kernel
theorem d_Pl_readFrom_61 : decode prog_5_method_2_code 61 = .ok (.iastore, 1) := by decide +kernel
theorem d_Pl_readFrom_62 : decode prog_5_method_2_code 62 = .ok (.aload_n 0, 1) := by decide +kernel
theorem d_Pl_readFrom_63 : decode prog_5_method_2_code 63 = .ok (.getfield 9, 3) := by decide +kernel
theorem d_Pl_readFrom_66 : decode prog_5_method_2_code 66 = .ok (.aload_n 1, 1) := by decide +kernel
theorem d_Pl_readFrom_67 : decode prog_5_method_2_code 67 = .ok (.getfield 33, 3) := by decide +kernel
theorem d_Pl_readFrom_70 : decode prog_5_method_2_code 70 = .ok (.iload_n 2, 1) := by decide +kernel
theorem d_Pl_readFrom_71 : decode prog_5_method_2_code 71 = .ok (.iaload, 1) := by decide +kernel
theorem d_Pl_readFrom_72 : decode prog_5_method_2_code 72 = .ok (.iload_n 2, 1) := by decide +kernel
theorem d_Pl_readFrom_73 : decode prog_5_method_2_code 73 = .ok (.iastore, 1) := by decide +kernel
theorem d_Pl_readFrom_74 : decode prog_5_method_2_code 74 = .ok (.aload_n 1, 1) := by decide +kernel
theorem d_Pl_readFrom_75 : decode prog_5_method_2_code 75 = .ok (.getfield 33, 3) := by decide +kernel
theorem d_Pl_readFrom_78 : decode prog_5_method_2_code 78 = .ok (.iload_n 2, 1) := by decide +kernel
theorem d_Pl_readFrom_79 : decode prog_5_method_2_code 79 = .ok (.iaload, 1) := by decide +kernel
theorem d_Pl_readFrom_80 : decode prog_5_method_2_code 80 = .ok (.istore_n 2, 1) := by decide +kernel
theorem d_Pl_readFrom_81 : decode prog_5_method_2_code 81 = .ok (.iinc 3 (-1), 3) := by decide +kernel
theorem d_Pl_readFrom_84 : decode prog_5_method_2_code 84 = .ok (.goto (-75), 3) := by decide +kernel
theorem d_Pl_readFrom_87 : decode prog_5_method_2_code 87 = .ok (.aload_n 0, 1) := by decide +kernel
theorem d_Pl_readFrom_88 : decode prog_5_method_2_code 88 = .ok (.aload_n 1, 1) := by decide +kernel
theorem d_Pl_readFrom_89 : decode prog_5_method_2_code 89 = .ok (.invokevirtual 36, 3) := by decide +kernel
theorem d_Pl_readFrom_92 : decode prog_5_method_2_code 92 = .ok (.return_, 1) := by decide +kernel
theorem d_Pl_findStarts_0 : decode prog_5_method_3_code 0 = .ok (.aload_n 0, 1) := by decide +kernel
theorem d_Pl_findStarts_1 : decode prog_5_method_3_code 1 = .ok (.getfield 21, 3) := by decide +kernel
theorem d_Pl_findStarts_4 : decode prog_5_method_3_code 4 = .ok (.iconst 0, 1) := by decide +kernel
theorem d_Pl_findStarts_5 : decode prog_5_method_3_code 5 = .ok (.iconst 0, 1) := by decide +kernel
theorem d_Pl_findStarts_6 : decode prog_5_method_3_code 6 = .ok (.iastore, 1) := by decide +kernel
theorem d_Pl_findStarts_7 : decode prog_5_method_3_code 7 = .ok (.aload_n 0, 1) := by decide +kernel
theorem d_Pl_findStarts_8 : decode prog_5_method_3_code 8 = .ok (.iconst 1, 1) := by decide +kernel
theorem d_Pl_findStarts_9 : decode prog_5_method_3_code 9 = .ok (.putfield 40, 3) := by decide +kernel
theorem d_Pl_findStarts_12 : decode prog_5_method_3_code 12 = .ok (.aload_n 0, 1) := by decide +kernel
theorem d_Pl_findStarts_13 : decode prog_5_method_3_code 13 = .ok (.getfield 18, 3) := by decide +kernel
theorem d_Pl_findStarts_16 : decode prog_5_method_3_code 16 = .ok (.iconst 0, 1) := by decide +kernel
theorem d_Pl_findStarts_17 : decode prog_5_method_3_code 17 = .ok (.iaload, 1) := by decide +kernel
theorem d_Pl_findStarts_18 : decode prog_5_method_3_code 18 = .ok (.istore_n 2, 1) := by decide +kernel
theorem d_Pl_findStarts_19 : decode prog_5_method_3_code 19 = .ok (.iconst 1, 1) := by decide +kernel
theorem d_Pl_findStarts_20 : decode prog_5_method_3_code 20 = .ok (.istore_n 3, 1) := by decide +kernel
theorem d_Pl_findStarts_21 : decode prog_5_method_3_code 21 = .ok (.iload_n 3, 1) := by decide +kernel
theorem d_Pl_findStarts_22 : decode prog_5_method_3_code 22 = .ok (.aload_n 1, 1) := by decide +kernel
theorem d_Pl_findStarts_23 : decode prog_5_method_3_code 23 = .ok (.getfield 28, 3) := by decide +kernel
theorem d_Pl_findStarts_26 : decode prog_5_method_3_code 26 = .ok (.if_icmp .ge 46, 3) := by decide +kernel
theorem d_Pl_findStarts_29 : decode prog_5_method_3_code 29 = .ok (.aload_n 0, 1) := by decide +kernel
theorem d_Pl_findStarts_30 : decode prog_5_method_3_code 30 = .ok (.getfield 9, 3) := by decide +kernel
theorem d_Pl_findStarts_33 : decode prog_5_method_3_code 33 = .ok (.iload_n 2, 1) := by decide +kernel
theorem d_Pl_findStarts_34 : decode prog_5_method_3_code 34 = .ok (.iaload, 1) := by decide +kernel
theorem d_Pl_findStarts_35 : decode prog_5_method_3_code 35 = .ok (.istore_n 2, 1) := by decide +kernel
theorem d_Pl_findStarts_36 : decode prog_5_method_3_code 36 = .ok (.aload_n 1, 1) := by decide +kernel
theorem d_Pl_findStarts_37 : decode prog_5_method_3_code 37 = .ok (.getfield 43, 3) := by decide +kernel
theorem d_Pl_findStarts_40 : decode prog_5_method_3_code 40 = .ok (.iload_n 2, 1) := by decide +kernel
theorem d_Pl_findStarts_41 : decode prog_5_method_3_code 41 = .ok (.iaload, 1) := by decide +kernel
theorem d_Pl_findStarts_42 : decode prog_5_method_3_code 42 = .ok (.iconst 1, 1) := by decide +kernel
theorem d_Pl_findStarts_43 : decode prog_5_method_3_code 43 = .ok (.if_icmp .ne 23, 3) := by decide +kernel
theorem d_Pl_findStarts_46 : decode prog_5_method_3_code 46 = .ok (.aload_n 0, 1) := by decide +kernel
theorem d_Pl_findStarts_47 : decode prog_5_method_3_code 47 = .ok (.getfield 21, 3) := by decide +kernel
theorem d_Pl_findStarts_50 : decode prog_5_method_3_code 50 = .ok (.aload_n 0, 1) := by decide +kernel
theorem d_Pl_findStarts_51 : decode prog_5_method_3_code 51 = .ok (.getfield 40, 3) := by decide +kernel
theorem d_Pl_findStarts_54 : decode prog_5_method_3_code 54 = .ok (.iload_n 3, 1) := by decide +kernel
theorem d_Pl_findStarts_55 : decode prog_5_method_3_code 55 = .ok (.iastore, 1) := by decide +kernel
theorem d_Pl_findStarts_56 : decode prog_5_method_3_code 56 = .ok (.aload_n 0, 1) := by decide +kernel
theorem d_Pl_findStarts_57 : decode prog_5_method_3_code 57 = .ok (.dup, 1) := by decide +kernel
theorem d_Pl_findStarts_58 : decode prog_5_method_3_code 58 = .ok (.getfield 40, 3) := by decide +kernel
theorem d_Pl_findStarts_61 : decode prog_5_method_3_code 61 = .ok (.iconst 1, 1) := by decide +kernel
theorem d_Pl_findStarts_62 : decode prog_5_method_3_code 62 = .ok (.iadd, 1) := by decide +kernel
theorem d_Pl_findStarts_63 : decode prog_5_method_3_code 63 = .ok (.putfield 40, 3) := by decide +kernel
theorem d_Pl_findStarts_66 : decode prog_5_method_3_code 66 = .ok (.iinc 3 1, 3) := by decide +kernel
theorem d_Pl_findStarts_69 : decode prog_5_method_3_code 69 = .ok (.goto (-48), 3) := by decide +kernel
theorem d_Pl_findStarts_72 : decode prog_5_method_3_code 72 = .ok (.aload_n 0, 1) := by decide +kernel
theorem d_Pl_findStarts_73 : decode prog_5_method_3_code 73 = .ok (.getfield 21, 3) := by decide +kernel
theorem d_Pl_findStarts_76 : decode prog_5_method_3_code 76 = .ok (.aload_n 0, 1) := by decide +kernel
theorem d_Pl_findStarts_77 : decode prog_5_method_3_code 77 = .ok (.getfield 40, 3) := by decide +kernel
theorem d_Pl_findStarts_80 : decode prog_5_method_3_code 80 = .ok (.aload_n 1, 1) := by decide +kernel
theorem d_Pl_findStarts_81 : decode prog_5_method_3_code 81 = .ok (.getfield 28, 3) := by decide +kernel
theorem d_Pl_findStarts_84 : decode prog_5_method_3_code 84 = .ok (.iastore, 1) := by decide +kernel
theorem d_Pl_findStarts_85 : decode prog_5_method_3_code 85 = .ok (.return_, 1) := by decide +kernel
theorem d_Si_load_0 : decode prog_1_method_5_code 0 = .ok (.aload_n 0, 1) := by decide +kernel
theorem d_Si_load_1 : decode prog_1_method_5_code 1 = .ok (.getfield 20, 3) := by decide +kernel
theorem d_Si_load_4 : decode prog_1_method_5_code 4 = .ok (.aload_n 0, 1) := by decide +kernel
theorem d_Si_load_5 : decode prog_1_method_5_code 5 = .ok (.getfield 9, 3) := by decide +kernel
theorem d_Si_load_8 : decode prog_1_method_5_code 8 = .ok (.aload_n 0, 1) := by decide +kernel
theorem d_Si_load_9 : decode prog_1_method_5_code 9 = .ok (.getfield 54, 3) := by decide +kernel
theorem d_Si_load_12 : decode prog_1_method_5_code 12 = .ok (.invokevirtual 72, 3) := by decide +kernel
theorem d_Si_load_15 : decode prog_1_method_5_code 15 = .ok (.aload_n 0, 1) := by decide +kernel
theorem d_Si_load_16 : decode prog_1_method_5_code 16 = .ok (.getfield 20, 3) := by decide +kernel
theorem d_Si_load_19 : decode prog_1_method_5_code 19 = .ok (.invokevirtual 75, 3) := by decide +kernel
theorem d_Si_load_22 : decode prog_1_method_5_code 22 = .ok (.ifCond .ne 5, 3) := by decide +kernel
theorem d_Si_load_25 : decode prog_1_method_5_code 25 = .ok (.iconst 0, 1) := by decide +kernel
theorem d_Si_load_26 : decode prog_1_method_5_code 26 = .ok (.ireturn, 1) := by decide +kernel
theorem d_Si_load_27 : decode prog_1_method_5_code 27 = .ok (.aload_n 0, 1) := by decide +kernel
theorem d_Si_load_28 : decode prog_1_method_5_code 28 = .ok (.invokevirtual 66, 3) := by decide +kernel
theorem d_Si_load_31 : decode prog_1_method_5_code 31 = .ok (.iconst 1, 1) := by decide +kernel
theorem d_Si_load_32 : decode prog_1_method_5_code 32 = .ok (.ireturn, 1) := by decide +kernel
theorem d_Im_copyFrom_0 : decode prog_3_method_2_code 0 = .ok (.aload_n 1, 1) := by decide +kernel
theorem d_Im_copyFrom_1 : decode prog_3_method_2_code 1 = .ok (.iconst 0, 1) := by decide +kernel
theorem d_Im_copyFrom_2 : decode prog_3_method_2_code 2 = .ok (.aload_n 0, 1) := by decide +kernel
theorem d_Im_copyFrom_3 : decode prog_3_method_2_code 3 = .ok (.getfield 9, 3) := by decide +kernel
theorem d_Im_copyFrom_6 : decode prog_3_method_2_code 6 = .ok (.iconst 0, 1) := by decide +kernel
theorem d_Im_copyFrom_7 : decode prog_3_method_2_code 7 = .ok (.iload_n 2, 1) := by decide +kernel
theorem d_Im_copyFrom_8 : decode prog_3_method_2_code 8 = .ok (.invokestatic 21, 3) := by decide +kernel
theorem d_Im_copyFrom_11 : decode prog_3_method_2_code 11 = .ok (.aload_n 0, 1) := by decide +kernel
theorem d_Im_copyFrom_12 : decode prog_3_method_2_code 12 = .ok (.iload_n 2, 1) := by decide +kernel
theorem d_Im_copyFrom_13 : decode prog_3_method_2_code 13 = .ok (.putfield 27, 3) := by decide +kernel
theorem d_Im_copyFrom_16 : decode prog_3_method_2_code 16 = .ok (.aload_n 0, 1) := by decide +kernel
theorem d_Im_copyFrom_17 : decode prog_3_method_2_code 17 = .ok (.invokevirtual 31, 3) := by decide +kernel
theorem d_Im_copyFrom_20 : decode prog_3_method_2_code 20 = .ok (.return_, 1) := by decide +kernel
theorem d_Im_isOfText_0 : decode prog_3_method_8_code 0 = .ok (.aload_n 0, 1) := by decide +kernel
theorem d_Im_isOfText_1 : decode prog_3_method_8_code 1 = .ok (.iconst 0, 1) := by decide +kernel
theorem d_Im_isOfText_2 : decode prog_3_method_8_code 2 = .ok (.aload_n 0, 1) := by decide +kernel
theorem d_Im_isOfText_3 : decode prog_3_method_8_code 3 = .ok (.getfield 27, 3) := by decide +kernel
theorem d_Im_isOfText_6 : decode prog_3_method_8_code 6 = .ok (.invokevirtual 42, 3) := by decide +kernel
theorem d_Im_isOfText_9 : decode prog_3_method_8_code 9 = .ok (.iconst 1, 1) := by decide +kernel
theorem d_Im_isOfText_10 : decode prog_3_method_8_code 10 = .ok (.if_icmp .eq 5, 3) := by decide +kernel
theorem d_Im_isOfText_13 : decode prog_3_method_8_code 13 = .ok (.iconst 0, 1) := by decide +kernel
theorem d_Im_isOfText_14 : decode prog_3_method_8_code 14 = .ok (.ireturn, 1) := by decide +kernel
theorem d_Im_isOfText_15 : decode prog_3_method_8_code 15 = .ok (.iconst 0, 1) := by decide +kernel
theorem d_Im_isOfText_16 : decode prog_3_method_8_code 16 = .ok (.istore_n 1, 1) := by decide +kernel
theorem d_Im_isOfText_17 : decode prog_3_method_8_code 17 = .ok (.iconst 1, 1) := by decide +kernel
theorem d_Im_isOfText_18 : decode prog_3_method_8_code 18 = .ok (.istore_n 2, 1) := by decide +kernel
theorem d_Im_isOfText_19 : decode prog_3_method_8_code 19 = .ok (.iload_n 2, 1) := by decide +kernel
theorem d_Im_isOfText_20 : decode prog_3_method_8_code 20 = .ok (.aload_n 0, 1) := by decide +kernel
theorem d_Im_isOfText_21 : decode prog_3_method_8_code 21 = .ok (.getfield 27, 3) := by decide +kernel
theorem d_Im_isOfText_24 : decode prog_3_method_8_code 24 = .ok (.if_icmp .ge 27, 3) := by decide +kernel
theorem d_Im_isOfText_27 : decode prog_3_method_8_code 27 = .ok (.aload_n 0, 1) := by decide +kernel
theorem d_Im_isOfText_28 : decode prog_3_method_8_code 28 = .ok (.getfield 9, 3) := by decide +kernel
theorem d_Im_isOfText_31 : decode prog_3_method_8_code 31 = .ok (.iload_n 1, 1) := by decide +kernel
theorem d_Im_isOfText_32 : decode prog_3_method_8_code 32 = .ok (.iaload, 1) := by decide +kernel
theorem d_Im_isOfText_33 : decode prog_3_method_8_code 33 = .ok (.ifCond .ne 5, 3) := by decide +kernel
theorem d_Im_isOfText_36 : decode prog_3_method_8_code 36 = .ok (.iconst 0, 1) := by decide +kernel
theorem d_Im_isOfText_37 : decode prog_3_method_8_code 37 = .ok (.ireturn, 1) := by decide +kernel
theorem d_Im_isOfText_38 : decode prog_3_method_8_code 38 = .ok (.aload_n 0, 1) := by decide +kernel
theorem d_Im_isOfText_39 : decode prog_3_method_8_code 39 = .ok (.getfield 18, 3) := by decide +kernel
theorem d_Im_isOfText_42 : decode prog_3_method_8_code 42 = .ok (.iload_n 1, 1) := by decide +kernel
theorem d_Im_isOfText_43 : decode prog_3_method_8_code 43 = .ok (.iaload, 1) := by decide +kernel
theorem d_Im_isOfText_44 : decode prog_3_method_8_code 44 = .ok (.istore_n 1, 1) := by decide +kernel
theorem d_Im_isOfText_45 : decode prog_3_method_8_code 45 = .ok (.iinc 2 1, 3) := by decide +kernel
theorem d_Im_isOfText_48 : decode prog_3_method_8_code 48 = .ok (.goto (-29), 3) := by decide +kernel
theorem d_Im_isOfText_51 : decode prog_3_method_8_code 51 = .ok (.iconst 1, 1) := by decide +kernel
theorem d_Im_isOfText_52 : decode prog_3_method_8_code 52 = .ok (.ireturn, 1) := by decide +kernel
theorem d_Si_size_0 : decode prog_1_method_6_code 0 = .ok (.aload_n 0, 1) := by decide +kernel
theorem d_Si_size_1 : decode prog_1_method_6_code 1 = .ok (.getfield 16, 3) := by decide +kernel
theorem d_Si_size_4 : decode prog_1_method_6_code 4 = .ok (.getfield 78, 3) := by decide +kernel
theorem d_Si_size_7 : decode prog_1_method_6_code 7 = .ok (.ireturn, 1) := by decide +kernel
theorem d_Si_image_0 : decode prog_1_method_7_code 0 = .ok (.iload_n 1, 1) := by decide +kernel
theorem d_Si_image_1 : decode prog_1_method_7_code 1 = .ok (.ifCond .lt 17, 3) := by decide +kernel
theorem d_Si_image_4 : decode prog_1_method_7_code 4 = .ok (.iload_n 1, 1) := by decide +kernel
theorem d_Si_image_5 : decode prog_1_method_7_code 5 = .ok (.aload_n 0, 1) := by decide +kernel
theorem d_Si_image_6 : decode prog_1_method_7_code 6 = .ok (.getfield 16, 3) := by decide +kernel
theorem d_Si_image_9 : decode prog_1_method_7_code 9 = .ok (.getfield 78, 3) := by decide +kernel
theorem d_Si_image_12 : decode prog_1_method_7_code 12 = .ok (.bipush 8, 2) := by decide +kernel
theorem d_Si_image_14 : decode prog_1_method_7_code 14 = .ok (.idiv, 1) := by decide +kernel
theorem d_Si_image_15 : decode prog_1_method_7_code 15 = .ok (.if_icmp .le 5, 3) := by decide +kernel
theorem d_Si_image_18 : decode prog_1_method_7_code 18 = .ok (.lconst 0, 1) := by decide +kernel
theorem d_Si_image_19 : decode prog_1_method_7_code 19 = .ok (.lreturn, 1) := by decide +kernel
theorem d_Si_image_20 : decode prog_1_method_7_code 20 = .ok (.lconst 0, 1) := by decide +kernel
theorem d_Si_image_21 : decode prog_1_method_7_code 21 = .ok (.lstore_n 2, 1) := by decide +kernel
theorem d_Si_image_22 : decode prog_1_method_7_code 22 = .ok (.iconst 0, 1) := by decide +kernel
theorem d_Si_image_23 : decode prog_1_method_7_code 23 = .ok (.istore 4, 2) := by decide +kernel
theorem d_Si_image_25 : decode prog_1_method_7_code 25 = .ok (.iload 4, 2) := by decide +kernel
theorem d_Si_image_27 : decode prog_1_method_7_code 27 = .ok (.bipush 8, 2) := by decide +kernel
theorem d_Si_image_29 : decode prog_1_method_7_code 29 = .ok (.if_icmp .ge 48, 3) := by decide +kernel
theorem d_Si_image_32 : decode prog_1_method_7_code 32 = .ok (.bipush 8, 2) := by decide +kernel
theorem d_Si_image_34 : decode prog_1_method_7_code 34 = .ok (.iload_n 1, 1) := by decide +kernel
theorem d_Si_image_35 : decode prog_1_method_7_code 35 = .ok (.imul, 1) := by decide +kernel
theorem d_Si_image_36 : decode prog_1_method_7_code 36 = .ok (.iload 4, 2) := by decide +kernel
theorem d_Si_image_38 : decode prog_1_method_7_code 38 = .ok (.iadd, 1) := by decide +kernel
theorem d_Si_image_39 : decode prog_1_method_7_code 39 = .ok (.istore 5, 2) := by decide +kernel
theorem d_Si_image_41 : decode prog_1_method_7_code 41 = .ok (.iload 5, 2) := by decide +kernel
theorem d_Si_image_43 : decode prog_1_method_7_code 43 = .ok (.aload_n 0, 1) := by decide +kernel
theorem d_Si_image_44 : decode prog_1_method_7_code 44 = .ok (.getfield 16, 3) := by decide +kernel
theorem d_Si_image_47 : decode prog_1_method_7_code 47 = .ok (.getfield 78, 3) := by decide +kernel
theorem d_Si_image_50 : decode prog_1_method_7_code 50 = .ok (.if_icmp .ge 21, 3) := by decide +kernel
theorem d_Si_image_53 : decode prog_1_method_7_code 53 = .ok (.lload_n 2, 1) := by decide +kernel
theorem d_Si_image_54 : decode prog_1_method_7_code 54 = .ok (.aload_n 0, 1) := by decide +kernel
theorem d_Si_image_55 : decode prog_1_method_7_code 55 = .ok (.getfield 16, 3) := by decide +kernel
theorem d_Si_image_58 : decode prog_1_method_7_code 58 = .ok (.getfield 81, 3) := by decide +kernel
theorem d_Si_image_61 : decode prog_1_method_7_code 61 = .ok (.iload 5, 2) := by decide +kernel
theorem d_Si_image_63 : decode prog_1_method_7_code 63 = .ok (.iaload, 1) := by decide +kernel
theorem d_Si_image_64 : decode prog_1_method_7_code 64 = .ok (.iload 4, 2) := by decide +kernel
theorem d_Si_image_66 : decode prog_1_method_7_code 66 = .ok (.invokestatic 84, 3) := by decide +kernel
theorem d_Si_image_69 : decode prog_1_method_7_code 69 = .ok (.lor, 1) := by decide +kernel
theorem d_Si_image_70 : decode prog_1_method_7_code 70 = .ok (.lstore_n 2, 1) := by decide +kernel
theorem d_Si_image_71 : decode prog_1_method_7_code 71 = .ok (.iinc 4 1, 3) := by decide +kernel
theorem d_Si_image_74 : decode prog_1_method_7_code 74 = .ok (.goto (-49), 3) := by decide +kernel
theorem d_Si_image_77 : decode prog_1_method_7_code 77 = .ok (.lload_n 2, 1) := by decide +kernel
theorem d_Si_image_78 : decode prog_1_method_7_code 78 = .ok (.lreturn, 1) := by decide +kernel
theorem d_Si_codeInByte_0 : decode prog_1_method_25_code 0 = .ok (.iload_n 0, 1) := by decide +kernel
theorem d_Si_codeInByte_1 : decode prog_1_method_25_code 1 = .ok (.invokestatic 167, 3) := by decide +kernel
theorem d_Si_codeInByte_4 : decode prog_1_method_25_code 4 = .ok (.i2l, 1) := by decide +kernel
theorem d_Si_codeInByte_5 : decode prog_1_method_25_code 5 = .ok (.bipush 8, 2) := by decide +kernel
theorem d_Si_codeInByte_7 : decode prog_1_method_25_code 7 = .ok (.iload_n 1, 1) := by decide +kernel
theorem d_Si_codeInByte_8 : decode prog_1_method_25_code 8 = .ok (.imul, 1) := by decide +kernel
theorem d_Si_codeInByte_9 : decode prog_1_method_25_code 9 = .ok (.lshl, 1) := by decide +kernel
theorem d_Si_codeInByte_10 : decode prog_1_method_25_code 10 = .ok (.lreturn, 1) := by decide +kernel
theorem d_Si_codeOf_0 : decode prog_1_method_27_code 0 = .ok (.iload_n 0, 1) := by decide +kernel
theorem d_Si_codeOf_1 : decode prog_1_method_27_code 1 = .ok (.ifCond .ne 6, 3) := by decide +kernel
theorem d_Si_codeOf_4 : decode prog_1_method_27_code 4 = .ok (.bipush 36, 2) := by decide +kernel
theorem d_Si_codeOf_6 : decode prog_1_method_27_code 6 = .ok (.ireturn, 1) := by decide +kernel
theorem d_Si_codeOf_7 : decode prog_1_method_27_code 7 = .ok (.iload_n 0, 1) := by decide +kernel
theorem d_Si_codeOf_8 : decode prog_1_method_27_code 8 = .ok (.iconst 1, 1) := by decide +kernel
theorem d_Si_codeOf_9 : decode prog_1_method_27_code 9 = .ok (.if_icmp .ne 8, 3) := by decide +kernel
theorem d_Si_codeOf_12 : decode prog_1_method_27_code 12 = .ok (.bipush 124, 2) := by decide +kernel
theorem d_Si_codeOf_14 : decode prog_1_method_27_code 14 = .ok (.goto 9, 3) := by decide +kernel
theorem d_Si_codeOf_17 : decode prog_1_method_27_code 17 = .ok (.bipush 97, 2) := by decide +kernel
theorem d_Si_codeOf_19 : decode prog_1_method_27_code 19 = .ok (.iload_n 0, 1) := by decide +kernel
theorem d_Si_codeOf_20 : decode prog_1_method_27_code 20 = .ok (.iadd, 1) := by decide +kernel
theorem d_Si_codeOf_21 : decode prog_1_method_27_code 21 = .ok (.iconst 2, 1) := by decide +kernel
theorem d_Si_codeOf_22 : decode prog_1_method_27_code 22 = .ok (.isub, 1) := by decide +kernel
theorem d_Si_codeOf_23 : decode prog_1_method_27_code 23 = .ok (.ireturn, 1) := by decide +kernel
theorem d_Si_rank_0 : decode prog_1_method_8_code 0 = .ok (.iload_n 1, 1) := by decide +kernel
theorem d_Si_rank_1 : decode prog_1_method_8_code 1 = .ok (.invokestatic 50, 3) := by decide +kernel
theorem d_Si_rank_4 : decode prog_1_method_8_code 4 = .ok (.istore_n 3, 1) := by decide +kernel
theorem d_Si_rank_5 : decode prog_1_method_8_code 5 = .ok (.iload_n 3, 1) := by decide +kernel
theorem d_Si_rank_6 : decode prog_1_method_8_code 6 = .ok (.iconst (-1), 1) := by decide +kernel
theorem d_Si_rank_7 : decode prog_1_method_8_code 7 = .ok (.if_icmp .eq 18, 3) := by decide +kernel
theorem d_Si_rank_10 : decode prog_1_method_8_code 10 = .ok (.iload_n 2, 1) := by decide +kernel
theorem d_Si_rank_11 : decode prog_1_method_8_code 11 = .ok (.ifCond .lt 14, 3) := by decide +kernel
theorem d_Si_rank_14 : decode prog_1_method_8_code 14 = .ok (.iload_n 2, 1) := by decide +kernel
theorem d_Si_rank_15 : decode prog_1_method_8_code 15 = .ok (.aload_n 0, 1) := by decide +kernel
theorem d_Si_rank_16 : decode prog_1_method_8_code 16 = .ok (.getfield 16, 3) := by decide +kernel
theorem d_Si_rank_19 : decode prog_1_method_8_code 19 = .ok (.getfield 78, 3) := by decide +kernel
theorem d_Si_rank_22 : decode prog_1_method_8_code 22 = .ok (.if_icmp .le 5, 3) := by decide +kernel
theorem d_Si_rank_25 : decode prog_1_method_8_code 25 = .ok (.iconst (-1), 1) := by decide +kernel
theorem d_Si_rank_26 : decode prog_1_method_8_code 26 = .ok (.ireturn, 1) := by decide +kernel
theorem d_Si_rank_27 : decode prog_1_method_8_code 27 = .ok (.aload_n 0, 1) := by decide +kernel
theorem d_Si_rank_28 : decode prog_1_method_8_code 28 = .ok (.getfield 16, 3) := by decide +kernel
theorem d_Si_rank_31 : decode prog_1_method_8_code 31 = .ok (.iload_n 3, 1) := by decide +kernel
theorem d_Si_rank_32 : decode prog_1_method_8_code 32 = .ok (.iload_n 2, 1) := by decide +kernel
theorem d_Si_rank_33 : decode prog_1_method_8_code 33 = .ok (.invokevirtual 88, 3) := by decide +kernel
theorem d_Si_rank_36 : decode prog_1_method_8_code 36 = .ok (.ireturn, 1) := by decide +kernel
theorem d_Si_suffix_0 : decode prog_1_method_9_code 0 = .ok (.aload_n 0, 1) := by decide +kernel
theorem d_Si_suffix_1 : decode prog_1_method_9_code 1 = .ok (.iload_n 1, 1) := by decide +kernel
theorem d_Si_suffix_2 : decode prog_1_method_9_code 2 = .ok (.invokevirtual 92, 3) := by decide +kernel
theorem d_Si_suffix_5 : decode prog_1_method_9_code 5 = .ok (.ifCond .eq 18, 3) := by decide +kernel
theorem d_Si_suffix_8 : decode prog_1_method_9_code 8 = .ok (.aload_n 0, 1) := by decide +kernel
theorem d_Si_suffix_9 : decode prog_1_method_9_code 9 = .ok (.getfield 42, 3) := by decide +kernel
theorem d_Si_suffix_12 : decode prog_1_method_9_code 12 = .ok (.aload_n 0, 1) := by decide +kernel
theorem d_Si_suffix_13 : decode prog_1_method_9_code 13 = .ok (.getfield 16, 3) := by decide +kernel
theorem d_Si_suffix_16 : decode prog_1_method_9_code 16 = .ok (.iload_n 1, 1) := by decide +kernel
theorem d_Si_suffix_17 : decode prog_1_method_9_code 17 = .ok (.invokevirtual 96, 3) := by decide +kernel
theorem d_Si_suffix_20 : decode prog_1_method_9_code 20 = .ok (.goto 4, 3) := by decide +kernel
theorem d_Si_suffix_23 : decode prog_1_method_9_code 23 = .ok (.iconst (-1), 1) := by decide +kernel
theorem d_Si_suffix_24 : decode prog_1_method_9_code 24 = .ok (.ireturn, 1) := by decide +kernel
theorem d_Si_hasRow_0 : decode prog_1_method_20_code 0 = .ok (.iload_n 1, 1) := by decide +kernel
theorem d_Si_hasRow_1 : decode prog_1_method_20_code 1 = .ok (.ifCond .lt 18, 3) := by decide +kernel
theorem d_Si_hasRow_4 : decode prog_1_method_20_code 4 = .ok (.iload_n 1, 1) := by decide +kernel
theorem d_Si_hasRow_5 : decode prog_1_method_20_code 5 = .ok (.aload_n 0, 1) := by decide +kernel
theorem d_Si_hasRow_6 : decode prog_1_method_20_code 6 = .ok (.getfield 16, 3) := by decide +kernel
theorem d_Si_hasRow_9 : decode prog_1_method_20_code 9 = .ok (.getfield 78, 3) := by decide +kernel
theorem d_Si_hasRow_12 : decode prog_1_method_20_code 12 = .ok (.if_icmp .ge 7, 3) := by decide +kernel
theorem d_Si_hasRow_15 : decode prog_1_method_20_code 15 = .ok (.iconst 1, 1) := by decide +kernel
theorem d_Si_hasRow_16 : decode prog_1_method_20_code 16 = .ok (.goto 4, 3) := by decide +kernel
theorem d_Si_hasRow_19 : decode prog_1_method_20_code 19 = .ok (.iconst 0, 1) := by decide +kernel
theorem d_Si_hasRow_20 : decode prog_1_method_20_code 20 = .ok (.ireturn, 1) := by decide +kernel
theorem d_Pl_ofRow_0 : decode prog_5_method_4_code 0 = .ok (.iload_n 2, 1) := by decide +kernel
theorem d_Pl_ofRow_1 : decode prog_5_method_4_code 1 = .ok (.istore_n 3, 1) := by decide +kernel
theorem d_Pl_ofRow_2 : decode prog_5_method_4_code 2 = .ok (.iconst 0, 1) := by decide +kernel
theorem d_Pl_ofRow_3 : decode prog_5_method_4_code 3 = .ok (.istore 4, 2) := by decide +kernel
theorem d_Pl_ofRow_5 : decode prog_5_method_4_code 5 = .ok (.iload 4, 2) := by decide +kernel
theorem d_Pl_ofRow_7 : decode prog_5_method_4_code 7 = .ok (.aload_n 0, 1) := by decide +kernel
theorem d_Pl_ofRow_8 : decode prog_5_method_4_code 8 = .ok (.getfield 24, 3) := by decide +kernel
theorem d_Pl_ofRow_11 : decode prog_5_method_4_code 11 = .ok (.if_icmp .ge 26, 3) := by decide +kernel
theorem d_Pl_ofRow_14 : decode prog_5_method_4_code 14 = .ok (.aload_n 0, 1) := by decide +kernel
theorem d_Pl_ofRow_15 : decode prog_5_method_4_code 15 = .ok (.getfield 15, 3) := by decide +kernel
theorem d_Pl_ofRow_18 : decode prog_5_method_4_code 18 = .ok (.iload_n 3, 1) := by decide +kernel
theorem d_Pl_ofRow_19 : decode prog_5_method_4_code 19 = .ok (.iaload, 1) := by decide +kernel
theorem d_Pl_ofRow_20 : decode prog_5_method_4_code 20 = .ok (.iconst (-1), 1) := by decide +kernel
theorem d_Pl_ofRow_21 : decode prog_5_method_4_code 21 = .ok (.if_icmp .ne 16, 3) := by decide +kernel
theorem d_Pl_ofRow_24 : decode prog_5_method_4_code 24 = .ok (.aload_n 1, 1) := by decide +kernel
theorem d_Pl_ofRow_25 : decode prog_5_method_4_code 25 = .ok (.getfield 33, 3) := by decide +kernel
theorem d_Pl_ofRow_28 : decode prog_5_method_4_code 28 = .ok (.iload_n 3, 1) := by decide +kernel
theorem d_Pl_ofRow_29 : decode prog_5_method_4_code 29 = .ok (.iaload, 1) := by decide +kernel
theorem d_Pl_ofRow_30 : decode prog_5_method_4_code 30 = .ok (.istore_n 3, 1) := by decide +kernel
theorem d_Pl_ofRow_31 : decode prog_5_method_4_code 31 = .ok (.iinc 4 1, 3) := by decide +kernel
theorem d_Pl_ofRow_34 : decode prog_5_method_4_code 34 = .ok (.goto (-29), 3) := by decide +kernel
theorem d_Pl_ofRow_37 : decode prog_5_method_4_code 37 = .ok (.aload_n 0, 1) := by decide +kernel
theorem d_Pl_ofRow_38 : decode prog_5_method_4_code 38 = .ok (.getfield 15, 3) := by decide +kernel
