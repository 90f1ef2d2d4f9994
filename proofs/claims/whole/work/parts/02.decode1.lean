theorem d_Pl_ofRow_41 : decode prog_5_method_4_code 41 = .ok (.iload_n 3, 1) := by decide +kernel
theorem d_Pl_ofRow_42 : decode prog_5_method_4_code 42 = .ok (.iaload, 1) := by decide +kernel
theorem d_Pl_ofRow_43 : decode prog_5_method_4_code 43 = .ok (.iload 4, 2) := by decide +kernel
theorem d_Pl_ofRow_45 : decode prog_5_method_4_code 45 = .ok (.iadd, 1) := by decide +kernel
theorem d_Pl_ofRow_46 : decode prog_5_method_4_code 46 = .ok (.ireturn, 1) := by decide +kernel
theorem d_Si_walk_0 : decode prog_1_method_10_code 0 = .ok (.aload_n 0, 1) := by decide +kernel
theorem d_Si_walk_1 : decode prog_1_method_10_code 1 = .ok (.iload_n 1, 1) := by decide +kernel
theorem d_Si_walk_2 : decode prog_1_method_10_code 2 = .ok (.invokevirtual 92, 3) := by decide +kernel
theorem d_Si_walk_5 : decode prog_1_method_10_code 5 = .ok (.ifCond .eq 26, 3) := by decide +kernel
theorem d_Si_walk_8 : decode prog_1_method_10_code 8 = .ok (.aload_n 0, 1) := by decide +kernel
theorem d_Si_walk_9 : decode prog_1_method_10_code 9 = .ok (.getfield 42, 3) := by decide +kernel
theorem d_Si_walk_12 : decode prog_1_method_10_code 12 = .ok (.aload_n 0, 1) := by decide +kernel
theorem d_Si_walk_13 : decode prog_1_method_10_code 13 = .ok (.getfield 16, 3) := by decide +kernel
theorem d_Si_walk_16 : decode prog_1_method_10_code 16 = .ok (.iload_n 1, 1) := by decide +kernel
theorem d_Si_walk_17 : decode prog_1_method_10_code 17 = .ok (.invokevirtual 96, 3) := by decide +kernel
theorem d_Si_walk_20 : decode prog_1_method_10_code 20 = .ok (.aload_n 0, 1) := by decide +kernel
theorem d_Si_walk_21 : decode prog_1_method_10_code 21 = .ok (.getfield 42, 3) := by decide +kernel
theorem d_Si_walk_24 : decode prog_1_method_10_code 24 = .ok (.getfield 100, 3) := by decide +kernel
theorem d_Si_walk_27 : decode prog_1_method_10_code 27 = .ok (.irem, 1) := by decide +kernel
theorem d_Si_walk_28 : decode prog_1_method_10_code 28 = .ok (.goto 4, 3) := by decide +kernel
theorem d_Si_walk_31 : decode prog_1_method_10_code 31 = .ok (.iconst (-1), 1) := by decide +kernel
theorem d_Si_walk_32 : decode prog_1_method_10_code 32 = .ok (.ireturn, 1) := by decide +kernel
theorem d_Si_sequences_0 : decode prog_1_method_11_code 0 = .ok (.aload_n 0, 1) := by decide +kernel
theorem d_Si_sequences_1 : decode prog_1_method_11_code 1 = .ok (.getfield 42, 3) := by decide +kernel
theorem d_Si_sequences_4 : decode prog_1_method_11_code 4 = .ok (.getfield 69, 3) := by decide +kernel
theorem d_Si_sequences_7 : decode prog_1_method_11_code 7 = .ok (.ireturn, 1) := by decide +kernel
theorem d_Si_length_0 : decode prog_1_method_12_code 0 = .ok (.aload_n 0, 1) := by decide +kernel
theorem d_Si_length_1 : decode prog_1_method_12_code 1 = .ok (.getfield 42, 3) := by decide +kernel
theorem d_Si_length_4 : decode prog_1_method_12_code 4 = .ok (.iload_n 1, 1) := by decide +kernel
theorem d_Si_length_5 : decode prog_1_method_12_code 5 = .ok (.invokevirtual 103, 3) := by decide +kernel
theorem d_Si_length_8 : decode prog_1_method_12_code 8 = .ok (.ireturn, 1) := by decide +kernel
theorem d_Pl_lettersOf_0 : decode prog_5_method_6_code 0 = .ok (.iload_n 1, 1) := by decide +kernel
theorem d_Pl_lettersOf_1 : decode prog_5_method_6_code 1 = .ok (.ifCond .lt 11, 3) := by decide +kernel
theorem d_Pl_lettersOf_4 : decode prog_5_method_6_code 4 = .ok (.iload_n 1, 1) := by decide +kernel
theorem d_Pl_lettersOf_5 : decode prog_5_method_6_code 5 = .ok (.aload_n 0, 1) := by decide +kernel
theorem d_Pl_lettersOf_6 : decode prog_5_method_6_code 6 = .ok (.getfield 40, 3) := by decide +kernel
theorem d_Pl_lettersOf_9 : decode prog_5_method_6_code 9 = .ok (.if_icmp .lt 5, 3) := by decide +kernel
theorem d_Pl_lettersOf_12 : decode prog_5_method_6_code 12 = .ok (.iconst (-1), 1) := by decide +kernel
theorem d_Pl_lettersOf_13 : decode prog_5_method_6_code 13 = .ok (.ireturn, 1) := by decide +kernel
theorem d_Pl_lettersOf_14 : decode prog_5_method_6_code 14 = .ok (.aload_n 0, 1) := by decide +kernel
theorem d_Pl_lettersOf_15 : decode prog_5_method_6_code 15 = .ok (.getfield 21, 3) := by decide +kernel
theorem d_Pl_lettersOf_18 : decode prog_5_method_6_code 18 = .ok (.iload_n 1, 1) := by decide +kernel
theorem d_Pl_lettersOf_19 : decode prog_5_method_6_code 19 = .ok (.iconst 1, 1) := by decide +kernel
theorem d_Pl_lettersOf_20 : decode prog_5_method_6_code 20 = .ok (.iadd, 1) := by decide +kernel
theorem d_Pl_lettersOf_21 : decode prog_5_method_6_code 21 = .ok (.iaload, 1) := by decide +kernel
theorem d_Pl_lettersOf_22 : decode prog_5_method_6_code 22 = .ok (.iconst 1, 1) := by decide +kernel
theorem d_Pl_lettersOf_23 : decode prog_5_method_6_code 23 = .ok (.isub, 1) := by decide +kernel
theorem d_Pl_lettersOf_24 : decode prog_5_method_6_code 24 = .ok (.aload_n 0, 1) := by decide +kernel
theorem d_Pl_lettersOf_25 : decode prog_5_method_6_code 25 = .ok (.getfield 21, 3) := by decide +kernel
theorem d_Pl_lettersOf_28 : decode prog_5_method_6_code 28 = .ok (.iload_n 1, 1) := by decide +kernel
theorem d_Pl_lettersOf_29 : decode prog_5_method_6_code 29 = .ok (.iaload, 1) := by decide +kernel
theorem d_Pl_lettersOf_30 : decode prog_5_method_6_code 30 = .ok (.isub, 1) := by decide +kernel
theorem d_Pl_lettersOf_31 : decode prog_5_method_6_code 31 = .ok (.ireturn, 1) := by decide +kernel
theorem d_Si_extract_0 : decode prog_1_method_13_code 0 = .ok (.aload_n 0, 1) := by decide +kernel
theorem d_Si_extract_1 : decode prog_1_method_13_code 1 = .ok (.getfield 42, 3) := by decide +kernel
theorem d_Si_extract_4 : decode prog_1_method_13_code 4 = .ok (.iload_n 1, 1) := by decide +kernel
theorem d_Si_extract_5 : decode prog_1_method_13_code 5 = .ok (.invokevirtual 103, 3) := by decide +kernel
theorem d_Si_extract_8 : decode prog_1_method_13_code 8 = .ok (.istore_n 3, 1) := by decide +kernel
theorem d_Si_extract_9 : decode prog_1_method_13_code 9 = .ok (.iload_n 2, 1) := by decide +kernel
theorem d_Si_extract_10 : decode prog_1_method_13_code 10 = .ok (.ifCond .lt 8, 3) := by decide +kernel
theorem d_Si_extract_13 : decode prog_1_method_13_code 13 = .ok (.iload_n 2, 1) := by decide +kernel
theorem d_Si_extract_14 : decode prog_1_method_13_code 14 = .ok (.iload_n 3, 1) := by decide +kernel
theorem d_Si_extract_15 : decode prog_1_method_13_code 15 = .ok (.if_icmp .lt 5, 3) := by decide +kernel
theorem d_Si_extract_18 : decode prog_1_method_13_code 18 = .ok (.lconst 0, 1) := by decide +kernel
theorem d_Si_extract_19 : decode prog_1_method_13_code 19 = .ok (.lreturn, 1) := by decide +kernel
theorem d_Si_extract_20 : decode prog_1_method_13_code 20 = .ok (.aload_n 0, 1) := by decide +kernel
theorem d_Si_extract_21 : decode prog_1_method_13_code 21 = .ok (.getfield 42, 3) := by decide +kernel
theorem d_Si_extract_24 : decode prog_1_method_13_code 24 = .ok (.aload_n 0, 1) := by decide +kernel
theorem d_Si_extract_25 : decode prog_1_method_13_code 25 = .ok (.getfield 42, 3) := by decide +kernel
theorem d_Si_extract_28 : decode prog_1_method_13_code 28 = .ok (.getfield 106, 3) := by decide +kernel
theorem d_Si_extract_31 : decode prog_1_method_13_code 31 = .ok (.iload_n 1, 1) := by decide +kernel
theorem d_Si_extract_32 : decode prog_1_method_13_code 32 = .ok (.iaload, 1) := by decide +kernel
theorem d_Si_extract_33 : decode prog_1_method_13_code 33 = .ok (.iload_n 2, 1) := by decide +kernel
theorem d_Si_extract_34 : decode prog_1_method_13_code 34 = .ok (.iadd, 1) := by decide +kernel
theorem d_Si_extract_35 : decode prog_1_method_13_code 35 = .ok (.invokevirtual 109, 3) := by decide +kernel
theorem d_Si_extract_38 : decode prog_1_method_13_code 38 = .ok (.istore 4, 2) := by decide +kernel
theorem d_Si_extract_40 : decode prog_1_method_13_code 40 = .ok (.lconst 0, 1) := by decide +kernel
theorem d_Si_extract_41 : decode prog_1_method_13_code 41 = .ok (.lstore 5, 2) := by decide +kernel
theorem d_Si_extract_43 : decode prog_1_method_13_code 43 = .ok (.iconst 0, 1) := by decide +kernel
theorem d_Si_extract_44 : decode prog_1_method_13_code 44 = .ok (.istore 7, 2) := by decide +kernel
theorem d_Si_extract_46 : decode prog_1_method_13_code 46 = .ok (.iload 7, 2) := by decide +kernel
theorem d_Si_extract_48 : decode prog_1_method_13_code 48 = .ok (.bipush 8, 2) := by decide +kernel
theorem d_Si_extract_50 : decode prog_1_method_13_code 50 = .ok (.if_icmp .ge 49, 3) := by decide +kernel
theorem d_Si_extract_53 : decode prog_1_method_13_code 53 = .ok (.iload 7, 2) := by decide +kernel
theorem d_Si_extract_55 : decode prog_1_method_13_code 55 = .ok (.iload_n 3, 1) := by decide +kernel
theorem d_Si_extract_56 : decode prog_1_method_13_code 56 = .ok (.iload_n 2, 1) := by decide +kernel
theorem d_Si_extract_57 : decode prog_1_method_13_code 57 = .ok (.isub, 1) := by decide +kernel
theorem d_Si_extract_58 : decode prog_1_method_13_code 58 = .ok (.if_icmp .ge 41, 3) := by decide +kernel
theorem d_Si_extract_61 : decode prog_1_method_13_code 61 = .ok (.aload_n 0, 1) := by decide +kernel
theorem d_Si_extract_62 : decode prog_1_method_13_code 62 = .ok (.getfield 42, 3) := by decide +kernel
theorem d_Si_extract_65 : decode prog_1_method_13_code 65 = .ok (.getfield 112, 3) := by decide +kernel
theorem d_Si_extract_68 : decode prog_1_method_13_code 68 = .ok (.iload 4, 2) := by decide +kernel
theorem d_Si_extract_70 : decode prog_1_method_13_code 70 = .ok (.iaload, 1) := by decide +kernel
theorem d_Si_extract_71 : decode prog_1_method_13_code 71 = .ok (.istore 4, 2) := by decide +kernel
theorem d_Si_extract_73 : decode prog_1_method_13_code 73 = .ok (.lload 5, 2) := by decide +kernel
theorem d_Si_extract_75 : decode prog_1_method_13_code 75 = .ok (.aload_n 0, 1) := by decide +kernel
theorem d_Si_extract_76 : decode prog_1_method_13_code 76 = .ok (.getfield 16, 3) := by decide +kernel
theorem d_Si_extract_79 : decode prog_1_method_13_code 79 = .ok (.getfield 81, 3) := by decide +kernel
theorem d_Si_extract_82 : decode prog_1_method_13_code 82 = .ok (.iload 4, 2) := by decide +kernel
theorem d_Si_extract_84 : decode prog_1_method_13_code 84 = .ok (.iaload, 1) := by decide +kernel
theorem d_Si_extract_85 : decode prog_1_method_13_code 85 = .ok (.iload 7, 2) := by decide +kernel
theorem d_Si_extract_87 : decode prog_1_method_13_code 87 = .ok (.invokestatic 84, 3) := by decide +kernel
theorem d_Si_extract_90 : decode prog_1_method_13_code 90 = .ok (.lor, 1) := by decide +kernel
theorem d_Si_extract_91 : decode prog_1_method_13_code 91 = .ok (.lstore 5, 2) := by decide +kernel
theorem d_Si_extract_93 : decode prog_1_method_13_code 93 = .ok (.iinc 7 1, 3) := by decide +kernel
theorem d_Si_extract_96 : decode prog_1_method_13_code 96 = .ok (.goto (-50), 3) := by decide +kernel
theorem d_Si_extract_99 : decode prog_1_method_13_code 99 = .ok (.lload 5, 2) := by decide +kernel
theorem d_Si_extract_101 : decode prog_1_method_13_code 101 = .ok (.lreturn, 1) := by decide +kernel
theorem d_Pl_rowOf_0 : decode prog_5_method_5_code 0 = .ok (.aload_n 0, 1) := by decide +kernel
theorem d_Pl_rowOf_1 : decode prog_5_method_5_code 1 = .ok (.getfield 18, 3) := by decide +kernel
theorem d_Pl_rowOf_4 : decode prog_5_method_5_code 4 = .ok (.iload_n 1, 1) := by decide +kernel
theorem d_Pl_rowOf_5 : decode prog_5_method_5_code 5 = .ok (.aload_n 0, 1) := by decide +kernel
theorem d_Pl_rowOf_6 : decode prog_5_method_5_code 6 = .ok (.getfield 24, 3) := by decide +kernel
theorem d_Pl_rowOf_9 : decode prog_5_method_5_code 9 = .ok (.idiv, 1) := by decide +kernel
theorem d_Pl_rowOf_10 : decode prog_5_method_5_code 10 = .ok (.iaload, 1) := by decide +kernel
theorem d_Pl_rowOf_11 : decode prog_5_method_5_code 11 = .ok (.istore_n 2, 1) := by decide +kernel
theorem d_Pl_rowOf_12 : decode prog_5_method_5_code 12 = .ok (.iload_n 1, 1) := by decide +kernel
theorem d_Pl_rowOf_13 : decode prog_5_method_5_code 13 = .ok (.aload_n 0, 1) := by decide +kernel
theorem d_Pl_rowOf_14 : decode prog_5_method_5_code 14 = .ok (.getfield 24, 3) := by decide +kernel
theorem d_Pl_rowOf_17 : decode prog_5_method_5_code 17 = .ok (.irem, 1) := by decide +kernel
theorem d_Pl_rowOf_18 : decode prog_5_method_5_code 18 = .ok (.istore_n 3, 1) := by decide +kernel
theorem d_Pl_rowOf_19 : decode prog_5_method_5_code 19 = .ok (.iload_n 3, 1) := by decide +kernel
theorem d_Pl_rowOf_20 : decode prog_5_method_5_code 20 = .ok (.ifCond .le 16, 3) := by decide +kernel
theorem d_Pl_rowOf_23 : decode prog_5_method_5_code 23 = .ok (.aload_n 0, 1) := by decide +kernel
theorem d_Pl_rowOf_24 : decode prog_5_method_5_code 24 = .ok (.getfield 9, 3) := by decide +kernel
theorem d_Pl_rowOf_27 : decode prog_5_method_5_code 27 = .ok (.iload_n 2, 1) := by decide +kernel
theorem d_Pl_rowOf_28 : decode prog_5_method_5_code 28 = .ok (.iaload, 1) := by decide +kernel
theorem d_Pl_rowOf_29 : decode prog_5_method_5_code 29 = .ok (.istore_n 2, 1) := by decide +kernel
theorem d_Pl_rowOf_30 : decode prog_5_method_5_code 30 = .ok (.iinc 3 (-1), 3) := by decide +kernel
theorem d_Pl_rowOf_33 : decode prog_5_method_5_code 33 = .ok (.goto (-14), 3) := by decide +kernel
theorem d_Pl_rowOf_36 : decode prog_5_method_5_code 36 = .ok (.iload_n 2, 1) := by decide +kernel
theorem d_Pl_rowOf_37 : decode prog_5_method_5_code 37 = .ok (.ireturn, 1) := by decide +kernel
theorem d_Si_count_0 : decode prog_1_method_14_code 0 = .ok (.aload_n 0, 1) := by decide +kernel
theorem d_Si_count_1 : decode prog_1_method_14_code 1 = .ok (.getfield 26, 3) := by decide +kernel
theorem d_Si_count_4 : decode prog_1_method_14_code 4 = .ok (.lload_n 1, 1) := by decide +kernel
theorem d_Si_count_5 : decode prog_1_method_14_code 5 = .ok (.invokevirtual 115, 3) := by decide +kernel
theorem d_Si_count_8 : decode prog_1_method_14_code 8 = .ok (.ifCond .ne 5, 3) := by decide +kernel
theorem d_Si_count_11 : decode prog_1_method_14_code 11 = .ok (.iconst (-1), 1) := by decide +kernel
theorem d_Si_count_12 : decode prog_1_method_14_code 12 = .ok (.ireturn, 1) := by decide +kernel
theorem d_Si_count_13 : decode prog_1_method_14_code 13 = .ok (.aload_n 0, 1) := by decide +kernel
theorem d_Si_count_14 : decode prog_1_method_14_code 14 = .ok (.getfield 16, 3) := by decide +kernel
theorem d_Si_count_17 : decode prog_1_method_14_code 17 = .ok (.aload_n 0, 1) := by decide +kernel
theorem d_Si_count_18 : decode prog_1_method_14_code 18 = .ok (.getfield 26, 3) := by decide +kernel
theorem d_Si_count_21 : decode prog_1_method_14_code 21 = .ok (.invokevirtual 119, 3) := by decide +kernel
theorem d_Si_count_24 : decode prog_1_method_14_code 24 = .ok (.aload_n 0, 1) := by decide +kernel
theorem d_Si_count_25 : decode prog_1_method_14_code 25 = .ok (.getfield 16, 3) := by decide +kernel
theorem d_Si_count_28 : decode prog_1_method_14_code 28 = .ok (.getfield 123, 3) := by decide +kernel
theorem d_Si_count_31 : decode prog_1_method_14_code 31 = .ok (.aload_n 0, 1) := by decide +kernel
theorem d_Si_count_32 : decode prog_1_method_14_code 32 = .ok (.getfield 16, 3) := by decide +kernel
theorem d_Si_count_35 : decode prog_1_method_14_code 35 = .ok (.getfield 126, 3) := by decide +kernel
theorem d_Si_count_38 : decode prog_1_method_14_code 38 = .ok (.isub, 1) := by decide +kernel
theorem d_Si_count_39 : decode prog_1_method_14_code 39 = .ok (.ireturn, 1) := by decide +kernel
theorem d_Pa_read_0 : decode prog_4_method_2_code 0 = .ok (.aload_n 0, 1) := by decide +kernel
theorem d_Pa_read_1 : decode prog_4_method_2_code 1 = .ok (.iconst 0, 1) := by decide +kernel
theorem d_Pa_read_2 : decode prog_4_method_2_code 2 = .ok (.putfield 18, 3) := by decide +kernel
theorem d_Pa_read_5 : decode prog_4_method_2_code 5 = .ok (.iconst 0, 1) := by decide +kernel
theorem d_Pa_read_6 : decode prog_4_method_2_code 6 = .ok (.istore_n 3, 1) := by decide +kernel
theorem d_Pa_read_7 : decode prog_4_method_2_code 7 = .ok (.iload_n 3, 1) := by decide +kernel
theorem d_Pa_read_8 : decode prog_4_method_2_code 8 = .ok (.bipush 8, 2) := by decide +kernel
theorem d_Pa_read_10 : decode prog_4_method_2_code 10 = .ok (.if_icmp .ge 65, 3) := by decide +kernel
theorem d_Pa_read_13 : decode prog_4_method_2_code 13 = .ok (.lload_n 1, 1) := by decide +kernel
theorem d_Pa_read_14 : decode prog_4_method_2_code 14 = .ok (.iload_n 3, 1) := by decide +kernel
theorem d_Pa_read_15 : decode prog_4_method_2_code 15 = .ok (.invokestatic 22, 3) := by decide +kernel
theorem d_Pa_read_18 : decode prog_4_method_2_code 18 = .ok (.istore 4, 2) := by decide +kernel
theorem d_Pa_read_20 : decode prog_4_method_2_code 20 = .ok (.iload 4, 2) := by decide +kernel
theorem d_Pa_read_22 : decode prog_4_method_2_code 22 = .ok (.ifCond .eq 47, 3) := by decide +kernel
theorem d_Pa_read_25 : decode prog_4_method_2_code 25 = .ok (.iload 4, 2) := by decide +kernel
theorem d_Pa_read_27 : decode prog_4_method_2_code 27 = .ok (.invokestatic 26, 3) := by decide +kernel
theorem d_Pa_read_30 : decode prog_4_method_2_code 30 = .ok (.istore 5, 2) := by decide +kernel
theorem d_Pa_read_32 : decode prog_4_method_2_code 32 = .ok (.iload 5, 2) := by decide +kernel
theorem d_Pa_read_34 : decode prog_4_method_2_code 34 = .ok (.iconst 2, 1) := by decide +kernel
theorem d_Pa_read_35 : decode prog_4_method_2_code 35 = .ok (.if_icmp .lt 11, 3) := by decide +kernel
theorem d_Pa_read_38 : decode prog_4_method_2_code 38 = .ok (.aload_n 0, 1) := by decide +kernel
theorem d_Pa_read_39 : decode prog_4_method_2_code 39 = .ok (.getfield 18, 3) := by decide +kernel
theorem d_Pa_read_42 : decode prog_4_method_2_code 42 = .ok (.iload_n 3, 1) := by decide +kernel
theorem d_Pa_read_43 : decode prog_4_method_2_code 43 = .ok (.if_icmp .eq 5, 3) := by decide +kernel
theorem d_Pa_read_46 : decode prog_4_method_2_code 46 = .ok (.iconst 0, 1) := by decide +kernel
theorem d_Pa_read_47 : decode prog_4_method_2_code 47 = .ok (.ireturn, 1) := by decide +kernel
theorem d_Pa_read_48 : decode prog_4_method_2_code 48 = .ok (.aload_n 0, 1) := by decide +kernel
theorem d_Pa_read_49 : decode prog_4_method_2_code 49 = .ok (.getfield 9, 3) := by decide +kernel
theorem d_Pa_read_52 : decode prog_4_method_2_code 52 = .ok (.aload_n 0, 1) := by decide +kernel
theorem d_Pa_read_53 : decode prog_4_method_2_code 53 = .ok (.getfield 18, 3) := by decide +kernel
theorem d_Pa_read_56 : decode prog_4_method_2_code 56 = .ok (.iload 5, 2) := by decide +kernel
theorem d_Pa_read_58 : decode prog_4_method_2_code 58 = .ok (.iastore, 1) := by decide +kernel
theorem d_Pa_read_59 : decode prog_4_method_2_code 59 = .ok (.aload_n 0, 1) := by decide +kernel
theorem d_Pa_read_60 : decode prog_4_method_2_code 60 = .ok (.dup, 1) := by decide +kernel
theorem d_Pa_read_61 : decode prog_4_method_2_code 61 = .ok (.getfield 18, 3) := by decide +kernel
theorem d_Pa_read_64 : decode prog_4_method_2_code 64 = .ok (.iconst 1, 1) := by decide +kernel
theorem d_Pa_read_65 : decode prog_4_method_2_code 65 = .ok (.iadd, 1) := by decide +kernel
theorem d_Pa_read_66 : decode prog_4_method_2_code 66 = .ok (.putfield 18, 3) := by decide +kernel
theorem d_Pa_read_69 : decode prog_4_method_2_code 69 = .ok (.iinc 3 1, 3) := by decide +kernel
theorem d_Pa_read_72 : decode prog_4_method_2_code 72 = .ok (.goto (-65), 3) := by decide +kernel
theorem d_Pa_read_75 : decode prog_4_method_2_code 75 = .ok (.aload_n 0, 1) := by decide +kernel
theorem d_Pa_read_76 : decode prog_4_method_2_code 76 = .ok (.getfield 18, 3) := by decide +kernel
theorem d_Pa_read_79 : decode prog_4_method_2_code 79 = .ok (.ifCond .le 7, 3) := by decide +kernel
theorem d_Pa_read_82 : decode prog_4_method_2_code 82 = .ok (.iconst 1, 1) := by decide +kernel
theorem d_Pa_read_83 : decode prog_4_method_2_code 83 = .ok (.goto 4, 3) := by decide +kernel
theorem d_Pa_read_86 : decode prog_4_method_2_code 86 = .ok (.iconst 0, 1) := by decide +kernel
theorem d_Pa_read_87 : decode prog_4_method_2_code 87 = .ok (.ireturn, 1) := by decide +kernel
theorem d_Im_search_0 : decode prog_3_method_9_code 0 = .ok (.aload_n 0, 1) := by decide +kernel
theorem d_Im_search_1 : decode prog_3_method_9_code 1 = .ok (.iconst 0, 1) := by decide +kernel
theorem d_Im_search_2 : decode prog_3_method_9_code 2 = .ok (.putfield 45, 3) := by decide +kernel
theorem d_Im_search_5 : decode prog_3_method_9_code 5 = .ok (.aload_n 0, 1) := by decide +kernel
theorem d_Im_search_6 : decode prog_3_method_9_code 6 = .ok (.aload_n 0, 1) := by decide +kernel
theorem d_Im_search_7 : decode prog_3_method_9_code 7 = .ok (.getfield 27, 3) := by decide +kernel
theorem d_Im_search_10 : decode prog_3_method_9_code 10 = .ok (.putfield 48, 3) := by decide +kernel
theorem d_Im_search_13 : decode prog_3_method_9_code 13 = .ok (.aload_n 1, 1) := by decide +kernel
theorem d_Im_search_14 : decode prog_3_method_9_code 14 = .ok (.getfield 51, 3) := by decide +kernel
theorem d_Im_search_17 : decode prog_3_method_9_code 17 = .ok (.iconst 1, 1) := by decide +kernel
theorem d_Im_search_18 : decode prog_3_method_9_code 18 = .ok (.isub, 1) := by decide +kernel
theorem d_Im_search_19 : decode prog_3_method_9_code 19 = .ok (.istore_n 2, 1) := by decide +kernel
theorem d_Im_search_20 : decode prog_3_method_9_code 20 = .ok (.iload_n 2, 1) := by decide +kernel
theorem d_Im_search_21 : decode prog_3_method_9_code 21 = .ok (.ifCond .lt 56, 3) := by decide +kernel
theorem d_Im_search_24 : decode prog_3_method_9_code 24 = .ok (.aload_n 1, 1) := by decide +kernel
theorem d_Im_search_25 : decode prog_3_method_9_code 25 = .ok (.getfield 54, 3) := by decide +kernel
theorem d_Im_search_28 : decode prog_3_method_9_code 28 = .ok (.iload_n 2, 1) := by decide +kernel
theorem d_Im_search_29 : decode prog_3_method_9_code 29 = .ok (.iaload, 1) := by decide +kernel
theorem d_Im_search_30 : decode prog_3_method_9_code 30 = .ok (.istore_n 3, 1) := by decide +kernel
theorem d_Im_search_31 : decode prog_3_method_9_code 31 = .ok (.aload_n 0, 1) := by decide +kernel
theorem d_Im_search_32 : decode prog_3_method_9_code 32 = .ok (.aload_n 0, 1) := by decide +kernel
theorem d_Im_search_33 : decode prog_3_method_9_code 33 = .ok (.getfield 15, 3) := by decide +kernel
theorem d_Im_search_36 : decode prog_3_method_9_code 36 = .ok (.iload_n 3, 1) := by decide +kernel
theorem d_Im_search_37 : decode prog_3_method_9_code 37 = .ok (.iaload, 1) := by decide +kernel
theorem d_Im_search_38 : decode prog_3_method_9_code 38 = .ok (.aload_n 0, 1) := by decide +kernel
theorem d_Im_search_39 : decode prog_3_method_9_code 39 = .ok (.iload_n 3, 1) := by decide +kernel
theorem d_Im_search_40 : decode prog_3_method_9_code 40 = .ok (.aload_n 0, 1) := by decide +kernel
theorem d_Im_search_41 : decode prog_3_method_9_code 41 = .ok (.getfield 45, 3) := by decide +kernel
theorem d_Im_search_44 : decode prog_3_method_9_code 44 = .ok (.invokevirtual 42, 3) := by decide +kernel
theorem d_Im_search_47 : decode prog_3_method_9_code 47 = .ok (.iadd, 1) := by decide +kernel
theorem d_Im_search_48 : decode prog_3_method_9_code 48 = .ok (.putfield 45, 3) := by decide +kernel
theorem d_Im_search_51 : decode prog_3_method_9_code 51 = .ok (.aload_n 0, 1) := by decide +kernel
theorem d_Im_search_52 : decode prog_3_method_9_code 52 = .ok (.aload_n 0, 1) := by decide +kernel
theorem d_Im_search_53 : decode prog_3_method_9_code 53 = .ok (.getfield 15, 3) := by decide +kernel
theorem d_Im_search_56 : decode prog_3_method_9_code 56 = .ok (.iload_n 3, 1) := by decide +kernel
theorem d_Im_search_57 : decode prog_3_method_9_code 57 = .ok (.iaload, 1) := by decide +kernel
theorem d_Im_search_58 : decode prog_3_method_9_code 58 = .ok (.aload_n 0, 1) := by decide +kernel
theorem d_Im_search_59 : decode prog_3_method_9_code 59 = .ok (.iload_n 3, 1) := by decide +kernel
theorem d_Im_search_60 : decode prog_3_method_9_code 60 = .ok (.aload_n 0, 1) := by decide +kernel
theorem d_Im_search_61 : decode prog_3_method_9_code 61 = .ok (.getfield 48, 3) := by decide +kernel
theorem d_Im_search_64 : decode prog_3_method_9_code 64 = .ok (.invokevirtual 42, 3) := by decide +kernel
theorem d_Im_search_67 : decode prog_3_method_9_code 67 = .ok (.iadd, 1) := by decide +kernel
theorem d_Im_search_68 : decode prog_3_method_9_code 68 = .ok (.putfield 48, 3) := by decide +kernel
theorem d_Im_search_71 : decode prog_3_method_9_code 71 = .ok (.iinc 2 (-1), 3) := by decide +kernel
theorem d_Im_search_74 : decode prog_3_method_9_code 74 = .ok (.goto (-54), 3) := by decide +kernel
theorem d_Im_search_77 : decode prog_3_method_9_code 77 = .ok (.return_, 1) := by decide +kernel
theorem d_Si_place_0 : decode prog_1_method_15_code 0 = .ok (.aload_n 0, 1) := by decide +kernel
theorem d_Si_place_1 : decode prog_1_method_15_code 1 = .ok (.getfield 26, 3) := by decide +kernel
theorem d_Si_place_4 : decode prog_1_method_15_code 4 = .ok (.lload_n 1, 1) := by decide +kernel
theorem d_Si_place_5 : decode prog_1_method_15_code 5 = .ok (.invokevirtual 115, 3) := by decide +kernel
theorem d_Si_place_8 : decode prog_1_method_15_code 8 = .ok (.ifCond .ne 5, 3) := by decide +kernel
theorem d_Si_place_11 : decode prog_1_method_15_code 11 = .ok (.iconst (-1), 1) := by decide +kernel
theorem d_Si_place_12 : decode prog_1_method_15_code 12 = .ok (.ireturn, 1) := by decide +kernel
theorem d_Si_place_13 : decode prog_1_method_15_code 13 = .ok (.aload_n 0, 1) := by decide +kernel
theorem d_Si_place_14 : decode prog_1_method_15_code 14 = .ok (.invokevirtual 129, 3) := by decide +kernel
theorem d_Si_place_17 : decode prog_1_method_15_code 17 = .ok (.aload_n 0, 1) := by decide +kernel
theorem d_Si_place_18 : decode prog_1_method_15_code 18 = .ok (.getfield 33, 3) := by decide +kernel
theorem d_Si_place_21 : decode prog_1_method_15_code 21 = .ok (.iload_n 3, 1) := by decide +kernel
theorem d_Si_place_22 : decode prog_1_method_15_code 22 = .ok (.iconst 0, 1) := by decide +kernel
theorem d_Si_place_23 : decode prog_1_method_15_code 23 = .ok (.invokevirtual 132, 3) := by decide +kernel
theorem d_Si_place_26 : decode prog_1_method_15_code 26 = .ok (.istore 4, 2) := by decide +kernel
theorem d_Si_place_28 : decode prog_1_method_15_code 28 = .ok (.iload 4, 2) := by decide +kernel
theorem d_Si_place_30 : decode prog_1_method_15_code 30 = .ok (.iconst (-1), 1) := by decide +kernel
theorem d_Si_place_31 : decode prog_1_method_15_code 31 = .ok (.if_icmp .ne 5, 3) := by decide +kernel
theorem d_Si_place_34 : decode prog_1_method_15_code 34 = .ok (.iconst (-1), 1) := by decide +kernel
theorem d_Si_place_35 : decode prog_1_method_15_code 35 = .ok (.ireturn, 1) := by decide +kernel
theorem d_Si_place_36 : decode prog_1_method_15_code 36 = .ok (.aload_n 0, 1) := by decide +kernel
theorem d_Si_place_37 : decode prog_1_method_15_code 37 = .ok (.getfield 42, 3) := by decide +kernel
theorem d_Si_place_40 : decode prog_1_method_15_code 40 = .ok (.iload 4, 2) := by decide +kernel
theorem d_Si_place_42 : decode prog_1_method_15_code 42 = .ok (.invokevirtual 135, 3) := by decide +kernel
theorem d_Si_place_45 : decode prog_1_method_15_code 45 = .ok (.istore 5, 2) := by decide +kernel
theorem d_Si_place_47 : decode prog_1_method_15_code 47 = .ok (.bipush 100, 2) := by decide +kernel
theorem d_Si_place_49 : decode prog_1_method_15_code 49 = .ok (.iload 5, 2) := by decide +kernel
theorem d_Si_place_51 : decode prog_1_method_15_code 51 = .ok (.imul, 1) := by decide +kernel
theorem d_Si_place_52 : decode prog_1_method_15_code 52 = .ok (.iload 4, 2) := by decide +kernel
theorem d_Si_place_54 : decode prog_1_method_15_code 54 = .ok (.iadd, 1) := by decide +kernel
theorem d_Si_place_55 : decode prog_1_method_15_code 55 = .ok (.aload_n 0, 1) := by decide +kernel
theorem d_Si_place_56 : decode prog_1_method_15_code 56 = .ok (.getfield 42, 3) := by decide +kernel
theorem d_Si_place_59 : decode prog_1_method_15_code 59 = .ok (.getfield 106, 3) := by decide +kernel
theorem d_Si_place_62 : decode prog_1_method_15_code 62 = .ok (.iload 5, 2) := by decide +kernel
theorem d_Si_place_64 : decode prog_1_method_15_code 64 = .ok (.iaload, 1) := by decide +kernel
theorem d_Si_place_65 : decode prog_1_method_15_code 65 = .ok (.isub, 1) := by decide +kernel
theorem d_Si_place_66 : decode prog_1_method_15_code 66 = .ok (.ireturn, 1) := by decide +kernel
theorem d_Si_findExact_0 : decode prog_1_method_22_code 0 = .ok (.aload_n 0, 1) := by decide +kernel
theorem d_Si_findExact_1 : decode prog_1_method_22_code 1 = .ok (.getfield 33, 3) := by decide +kernel
theorem d_Si_findExact_4 : decode prog_1_method_22_code 4 = .ok (.aload_n 0, 1) := by decide +kernel
theorem d_Si_findExact_5 : decode prog_1_method_22_code 5 = .ok (.getfield 16, 3) := by decide +kernel
theorem d_Si_findExact_8 : decode prog_1_method_22_code 8 = .ok (.getfield 78, 3) := by decide +kernel
theorem d_Si_findExact_11 : decode prog_1_method_22_code 11 = .ok (.invokevirtual 154, 3) := by decide +kernel
theorem d_Si_findExact_14 : decode prog_1_method_22_code 14 = .ok (.aload_n 0, 1) := by decide +kernel
theorem d_Si_findExact_15 : decode prog_1_method_22_code 15 = .ok (.getfield 16, 3) := by decide +kernel
theorem d_Si_findExact_18 : decode prog_1_method_22_code 18 = .ok (.aload_n 0, 1) := by decide +kernel
theorem d_Si_findExact_19 : decode prog_1_method_22_code 19 = .ok (.getfield 26, 3) := by decide +kernel
theorem d_Si_findExact_22 : decode prog_1_method_22_code 22 = .ok (.invokevirtual 119, 3) := by decide +kernel
theorem d_Si_findExact_25 : decode prog_1_method_22_code 25 = .ok (.aload_n 0, 1) := by decide +kernel
theorem d_Si_findExact_26 : decode prog_1_method_22_code 26 = .ok (.getfield 16, 3) := by decide +kernel
theorem d_Si_findExact_29 : decode prog_1_method_22_code 29 = .ok (.getfield 126, 3) := by decide +kernel
theorem d_Si_findExact_32 : decode prog_1_method_22_code 32 = .ok (.istore_n 1, 1) := by decide +kernel
theorem d_Si_findExact_33 : decode prog_1_method_22_code 33 = .ok (.iload_n 1, 1) := by decide +kernel
theorem d_Si_findExact_34 : decode prog_1_method_22_code 34 = .ok (.aload_n 0, 1) := by decide +kernel
theorem d_Si_findExact_35 : decode prog_1_method_22_code 35 = .ok (.getfield 16, 3) := by decide +kernel
theorem d_Si_findExact_38 : decode prog_1_method_22_code 38 = .ok (.getfield 123, 3) := by decide +kernel
theorem d_Si_findExact_41 : decode prog_1_method_22_code 41 = .ok (.if_icmp .ge 30, 3) := by decide +kernel
theorem d_Si_findExact_44 : decode prog_1_method_22_code 44 = .ok (.aload_n 0, 1) := by decide +kernel
theorem d_Si_findExact_45 : decode prog_1_method_22_code 45 = .ok (.getfield 33, 3) := by decide +kernel
theorem d_Si_findExact_48 : decode prog_1_method_22_code 48 = .ok (.getfield 147, 3) := by decide +kernel
theorem d_Si_findExact_51 : decode prog_1_method_22_code 51 = .ok (.aload_n 0, 1) := by decide +kernel
theorem d_Si_findExact_52 : decode prog_1_method_22_code 52 = .ok (.getfield 42, 3) := by decide +kernel
theorem d_Si_findExact_55 : decode prog_1_method_22_code 55 = .ok (.aload_n 0, 1) := by decide +kernel
theorem d_Si_findExact_56 : decode prog_1_method_22_code 56 = .ok (.getfield 16, 3) := by decide +kernel
theorem d_Si_findExact_59 : decode prog_1_method_22_code 59 = .ok (.iload_n 1, 1) := by decide +kernel
theorem d_Si_findExact_60 : decode prog_1_method_22_code 60 = .ok (.invokevirtual 96, 3) := by decide +kernel
theorem d_Si_findExact_63 : decode prog_1_method_22_code 63 = .ok (.iconst 0, 1) := by decide +kernel
theorem d_Si_findExact_64 : decode prog_1_method_22_code 64 = .ok (.iastore, 1) := by decide +kernel
theorem d_Si_findExact_65 : decode prog_1_method_22_code 65 = .ok (.iinc 1 1, 3) := by decide +kernel
theorem d_Si_findExact_68 : decode prog_1_method_22_code 68 = .ok (.goto (-35), 3) := by decide +kernel
theorem d_Si_findExact_71 : decode prog_1_method_22_code 71 = .ok (.return_, 1) := by decide +kernel
theorem d_Fi_clear_0 : decode prog_2_method_2_code 0 = .ok (.aload_n 0, 1) := by decide +kernel
theorem d_Fi_clear_1 : decode prog_2_method_2_code 1 = .ok (.iload_n 1, 1) := by decide +kernel
theorem d_Fi_clear_2 : decode prog_2_method_2_code 2 = .ok (.putfield 15, 3) := by decide +kernel
theorem d_Fi_clear_5 : decode prog_2_method_2_code 5 = .ok (.aload_n 0, 1) := by decide +kernel
theorem d_Fi_clear_6 : decode prog_2_method_2_code 6 = .ok (.getfield 9, 3) := by decide +kernel
theorem d_Fi_clear_9 : decode prog_2_method_2_code 9 = .ok (.iconst 5, 1) := by decide +kernel
theorem d_Fi_clear_10 : decode prog_2_method_2_code 10 = .ok (.invokestatic 19, 3) := by decide +kernel
theorem d_Fi_clear_13 : decode prog_2_method_2_code 13 = .ok (.return_, 1) := by decide +kernel
theorem d_Ar_fill_0 : decode prog_10_method_103_code 0 = .ok (.iconst 0, 1) := by decide +kernel
theorem d_Ar_fill_1 : decode prog_10_method_103_code 1 = .ok (.istore_n 2, 1) := by decide +kernel
theorem d_Ar_fill_2 : decode prog_10_method_103_code 2 = .ok (.aload_n 0, 1) := by decide +kernel
theorem d_Ar_fill_3 : decode prog_10_method_103_code 3 = .ok (.arraylength, 1) := by decide +kernel
theorem d_Ar_fill_4 : decode prog_10_method_103_code 4 = .ok (.istore_n 3, 1) := by decide +kernel
theorem d_Ar_fill_5 : decode prog_10_method_103_code 5 = .ok (.iload_n 2, 1) := by decide +kernel
theorem d_Ar_fill_6 : decode prog_10_method_103_code 6 = .ok (.iload_n 3, 1) := by decide +kernel
theorem d_Ar_fill_7 : decode prog_10_method_103_code 7 = .ok (.if_icmp .ge 13, 3) := by decide +kernel
theorem d_Ar_fill_10 : decode prog_10_method_103_code 10 = .ok (.aload_n 0, 1) := by decide +kernel
theorem d_Ar_fill_11 : decode prog_10_method_103_code 11 = .ok (.iload_n 2, 1) := by decide +kernel
theorem d_Ar_fill_12 : decode prog_10_method_103_code 12 = .ok (.iload_n 1, 1) := by decide +kernel
theorem d_Ar_fill_13 : decode prog_10_method_103_code 13 = .ok (.iastore, 1) := by decide +kernel
theorem d_Ar_fill_14 : decode prog_10_method_103_code 14 = .ok (.iinc 2 1, 3) := by decide +kernel
theorem d_Ar_fill_17 : decode prog_10_method_103_code 17 = .ok (.goto (-12), 3) := by decide +kernel
theorem d_Ar_fill_20 : decode prog_10_method_103_code 20 = .ok (.return_, 1) := by decide +kernel
theorem d_Fi_numbered_0 : decode prog_2_method_4_code 0 = .ok (.iconst 0, 1) := by decide +kernel
theorem d_Fi_numbered_1 : decode prog_2_method_4_code 1 = .ok (.istore_n 3, 1) := by decide +kernel
theorem d_Fi_numbered_2 : decode prog_2_method_4_code 2 = .ok (.iconst 0, 1) := by decide +kernel
theorem d_Fi_numbered_3 : decode prog_2_method_4_code 3 = .ok (.istore 4, 2) := by decide +kernel
theorem d_Fi_numbered_5 : decode prog_2_method_4_code 5 = .ok (.iload 4, 2) := by decide +kernel
theorem d_Fi_numbered_7 : decode prog_2_method_4_code 7 = .ok (.aload_n 0, 1) := by decide +kernel
theorem d_Fi_numbered_8 : decode prog_2_method_4_code 8 = .ok (.getfield 15, 3) := by decide +kernel
theorem d_Fi_numbered_11 : decode prog_2_method_4_code 11 = .ok (.if_icmp .ge 31, 3) := by decide +kernel
theorem d_Fi_numbered_14 : decode prog_2_method_4_code 14 = .ok (.aload_n 0, 1) := by decide +kernel
theorem d_Fi_numbered_15 : decode prog_2_method_4_code 15 = .ok (.getfield 9, 3) := by decide +kernel
theorem d_Fi_numbered_18 : decode prog_2_method_4_code 18 = .ok (.iload 4, 2) := by decide +kernel
theorem d_Fi_numbered_20 : decode prog_2_method_4_code 20 = .ok (.iaload, 1) := by decide +kernel
theorem d_Fi_numbered_21 : decode prog_2_method_4_code 21 = .ok (.iload_n 2, 1) := by decide +kernel
theorem d_Fi_numbered_22 : decode prog_2_method_4_code 22 = .ok (.if_icmp .gt 14, 3) := by decide +kernel
theorem d_Fi_numbered_25 : decode prog_2_method_4_code 25 = .ok (.iload_n 3, 1) := by decide +kernel
theorem d_Fi_numbered_26 : decode prog_2_method_4_code 26 = .ok (.iload_n 1, 1) := by decide +kernel
theorem d_Fi_numbered_27 : decode prog_2_method_4_code 27 = .ok (.if_icmp .ne 6, 3) := by decide +kernel
theorem d_Fi_numbered_30 : decode prog_2_method_4_code 30 = .ok (.iload 4, 2) := by decide +kernel
theorem d_Fi_numbered_32 : decode prog_2_method_4_code 32 = .ok (.ireturn, 1) := by decide +kernel
theorem d_Fi_numbered_33 : decode prog_2_method_4_code 33 = .ok (.iinc 3 1, 3) := by decide +kernel
theorem d_Fi_numbered_36 : decode prog_2_method_4_code 36 = .ok (.iinc 4 1, 3) := by decide +kernel
theorem d_Fi_numbered_39 : decode prog_2_method_4_code 39 = .ok (.goto (-34), 3) := by decide +kernel
theorem d_Fi_numbered_42 : decode prog_2_method_4_code 42 = .ok (.iconst (-1), 1) := by decide +kernel
theorem d_Fi_numbered_43 : decode prog_2_method_4_code 43 = .ok (.ireturn, 1) := by decide +kernel
theorem d_Pl_sequenceAt_0 : decode prog_5_method_7_code 0 = .ok (.iconst 0, 1) := by decide +kernel
theorem d_Pl_sequenceAt_1 : decode prog_5_method_7_code 1 = .ok (.istore_n 2, 1) := by decide +kernel
theorem d_Pl_sequenceAt_2 : decode prog_5_method_7_code 2 = .ok (.iload_n 2, 1) := by decide +kernel
theorem d_Pl_sequenceAt_3 : decode prog_5_method_7_code 3 = .ok (.aload_n 0, 1) := by decide +kernel
theorem d_Pl_sequenceAt_4 : decode prog_5_method_7_code 4 = .ok (.getfield 40, 3) := by decide +kernel
theorem d_Pl_sequenceAt_7 : decode prog_5_method_7_code 7 = .ok (.iconst 1, 1) := by decide +kernel
theorem d_Pl_sequenceAt_8 : decode prog_5_method_7_code 8 = .ok (.isub, 1) := by decide +kernel
theorem d_Pl_sequenceAt_9 : decode prog_5_method_7_code 9 = .ok (.if_icmp .ge 21, 3) := by decide +kernel
theorem d_Pl_sequenceAt_12 : decode prog_5_method_7_code 12 = .ok (.aload_n 0, 1) := by decide +kernel
theorem d_Pl_sequenceAt_13 : decode prog_5_method_7_code 13 = .ok (.getfield 21, 3) := by decide +kernel
theorem d_Pl_sequenceAt_16 : decode prog_5_method_7_code 16 = .ok (.iload_n 2, 1) := by decide +kernel
theorem d_Pl_sequenceAt_17 : decode prog_5_method_7_code 17 = .ok (.iconst 1, 1) := by decide +kernel
theorem d_Pl_sequenceAt_18 : decode prog_5_method_7_code 18 = .ok (.iadd, 1) := by decide +kernel
theorem d_Pl_sequenceAt_19 : decode prog_5_method_7_code 19 = .ok (.iaload, 1) := by decide +kernel
theorem d_Pl_sequenceAt_20 : decode prog_5_method_7_code 20 = .ok (.iload_n 1, 1) := by decide +kernel
theorem d_Pl_sequenceAt_21 : decode prog_5_method_7_code 21 = .ok (.if_icmp .gt 9, 3) := by decide +kernel
theorem d_Pl_sequenceAt_24 : decode prog_5_method_7_code 24 = .ok (.iinc 2 1, 3) := by decide +kernel
theorem d_Pl_sequenceAt_27 : decode prog_5_method_7_code 27 = .ok (.goto (-25), 3) := by decide +kernel
theorem d_Pl_sequenceAt_30 : decode prog_5_method_7_code 30 = .ok (.iload_n 2, 1) := by decide +kernel
theorem d_Pl_sequenceAt_31 : decode prog_5_method_7_code 31 = .ok (.ireturn, 1) := by decide +kernel
theorem d_Si_matches_0 : decode prog_1_method_16_code 0 = .ok (.aload_n 0, 1) := by decide +kernel
theorem d_Si_matches_1 : decode prog_1_method_16_code 1 = .ok (.getfield 26, 3) := by decide +kernel
theorem d_Si_matches_4 : decode prog_1_method_16_code 4 = .ok (.lload_n 1, 1) := by decide +kernel
theorem d_Si_matches_5 : decode prog_1_method_16_code 5 = .ok (.invokevirtual 115, 3) := by decide +kernel
theorem d_Si_matches_8 : decode prog_1_method_16_code 8 = .ok (.ifCond .eq 10, 3) := by decide +kernel
theorem d_Si_matches_11 : decode prog_1_method_16_code 11 = .ok (.iload_n 3, 1) := by decide +kernel
theorem d_Si_matches_12 : decode prog_1_method_16_code 12 = .ok (.invokestatic 138, 3) := by decide +kernel
theorem d_Si_matches_15 : decode prog_1_method_16_code 15 = .ok (.ifCond .ne 5, 3) := by decide +kernel
theorem d_Si_matches_18 : decode prog_1_method_16_code 18 = .ok (.iconst (-1), 1) := by decide +kernel
theorem d_Si_matches_19 : decode prog_1_method_16_code 19 = .ok (.ireturn, 1) := by decide +kernel
theorem d_Si_matches_20 : decode prog_1_method_16_code 20 = .ok (.aload_n 0, 1) := by decide +kernel
theorem d_Si_matches_21 : decode prog_1_method_16_code 21 = .ok (.invokevirtual 141, 3) := by decide +kernel
theorem d_Si_matches_24 : decode prog_1_method_16_code 24 = .ok (.aload_n 0, 1) := by decide +kernel
theorem d_Si_matches_25 : decode prog_1_method_16_code 25 = .ok (.getfield 33, 3) := by decide +kernel
theorem d_Si_matches_28 : decode prog_1_method_16_code 28 = .ok (.iload_n 3, 1) := by decide +kernel
theorem d_Si_matches_29 : decode prog_1_method_16_code 29 = .ok (.invokevirtual 144, 3) := by decide +kernel
theorem d_Si_matches_32 : decode prog_1_method_16_code 32 = .ok (.ireturn, 1) := by decide +kernel
theorem d_Si_mayErr_0 : decode prog_1_method_21_code 0 = .ok (.iload_n 0, 1) := by decide +kernel
theorem d_Si_mayErr_1 : decode prog_1_method_21_code 1 = .ok (.ifCond .lt 12, 3) := by decide +kernel
theorem d_Si_mayErr_4 : decode prog_1_method_21_code 4 = .ok (.iload_n 0, 1) := by decide +kernel
theorem d_Si_mayErr_5 : decode prog_1_method_21_code 5 = .ok (.iconst 4, 1) := by decide +kernel
theorem d_Si_mayErr_6 : decode prog_1_method_21_code 6 = .ok (.if_icmp .gt 7, 3) := by decide +kernel
theorem d_Si_mayErr_9 : decode prog_1_method_21_code 9 = .ok (.iconst 1, 1) := by decide +kernel
theorem d_Si_mayErr_10 : decode prog_1_method_21_code 10 = .ok (.goto 4, 3) := by decide +kernel
theorem d_Si_mayErr_13 : decode prog_1_method_21_code 13 = .ok (.iconst 0, 1) := by decide +kernel
theorem d_Si_mayErr_14 : decode prog_1_method_21_code 14 = .ok (.ireturn, 1) := by decide +kernel
theorem d_Si_findAlike_0 : decode prog_1_method_23_code 0 = .ok (.aload_n 0, 1) := by decide +kernel
theorem d_Si_findAlike_1 : decode prog_1_method_23_code 1 = .ok (.getfield 33, 3) := by decide +kernel
theorem d_Si_findAlike_4 : decode prog_1_method_23_code 4 = .ok (.aload_n 0, 1) := by decide +kernel
theorem d_Si_findAlike_5 : decode prog_1_method_23_code 5 = .ok (.getfield 16, 3) := by decide +kernel
theorem d_Si_findAlike_8 : decode prog_1_method_23_code 8 = .ok (.getfield 78, 3) := by decide +kernel
theorem d_Si_findAlike_11 : decode prog_1_method_23_code 11 = .ok (.invokevirtual 154, 3) := by decide +kernel
theorem d_Si_findAlike_14 : decode prog_1_method_23_code 14 = .ok (.aload_n 0, 1) := by decide +kernel
theorem d_Si_findAlike_15 : decode prog_1_method_23_code 15 = .ok (.getfield 26, 3) := by decide +kernel
theorem d_Si_findAlike_18 : decode prog_1_method_23_code 18 = .ok (.invokevirtual 157, 3) := by decide +kernel
theorem d_Si_findAlike_21 : decode prog_1_method_23_code 21 = .ok (.aload_n 0, 1) := by decide +kernel
theorem d_Si_findAlike_22 : decode prog_1_method_23_code 22 = .ok (.getfield 42, 3) := by decide +kernel
theorem d_Si_findAlike_25 : decode prog_1_method_23_code 25 = .ok (.iconst 0, 1) := by decide +kernel
theorem d_Si_findAlike_26 : decode prog_1_method_23_code 26 = .ok (.invokevirtual 109, 3) := by decide +kernel
theorem d_Si_findAlike_29 : decode prog_1_method_23_code 29 = .ok (.istore_n 1, 1) := by decide +kernel
theorem d_Si_findAlike_30 : decode prog_1_method_23_code 30 = .ok (.iconst 0, 1) := by decide +kernel
theorem d_Si_findAlike_31 : decode prog_1_method_23_code 31 = .ok (.istore_n 2, 1) := by decide +kernel
theorem d_Si_findAlike_32 : decode prog_1_method_23_code 32 = .ok (.iload_n 2, 1) := by decide +kernel
theorem d_Si_findAlike_33 : decode prog_1_method_23_code 33 = .ok (.aload_n 0, 1) := by decide +kernel
theorem d_Si_findAlike_34 : decode prog_1_method_23_code 34 = .ok (.getfield 16, 3) := by decide +kernel
theorem d_Si_findAlike_37 : decode prog_1_method_23_code 37 = .ok (.getfield 78, 3) := by decide +kernel
theorem d_Si_findAlike_40 : decode prog_1_method_23_code 40 = .ok (.if_icmp .ge 55, 3) := by decide +kernel
theorem d_Si_findAlike_43 : decode prog_1_method_23_code 43 = .ok (.iload_n 2, 1) := by decide +kernel
theorem d_Si_findAlike_44 : decode prog_1_method_23_code 44 = .ok (.ifCond .le 29, 3) := by decide +kernel
theorem d_Si_findAlike_47 : decode prog_1_method_23_code 47 = .ok (.aload_n 0, 1) := by decide +kernel
theorem d_Si_findAlike_48 : decode prog_1_method_23_code 48 = .ok (.getfield 42, 3) := by decide +kernel
theorem d_Si_findAlike_51 : decode prog_1_method_23_code 51 = .ok (.getfield 112, 3) := by decide +kernel
theorem d_Si_findAlike_54 : decode prog_1_method_23_code 54 = .ok (.iload_n 1, 1) := by decide +kernel
theorem d_Si_findAlike_55 : decode prog_1_method_23_code 55 = .ok (.iaload, 1) := by decide +kernel
theorem d_Si_findAlike_56 : decode prog_1_method_23_code 56 = .ok (.istore_n 1, 1) := by decide +kernel
theorem d_Si_findAlike_57 : decode prog_1_method_23_code 57 = .ok (.aload_n 0, 1) := by decide +kernel
theorem d_Si_findAlike_58 : decode prog_1_method_23_code 58 = .ok (.getfield 26, 3) := by decide +kernel
theorem d_Si_findAlike_61 : decode prog_1_method_23_code 61 = .ok (.aload_n 0, 1) := by decide +kernel
theorem d_Si_findAlike_62 : decode prog_1_method_23_code 62 = .ok (.getfield 16, 3) := by decide +kernel
theorem d_Si_findAlike_65 : decode prog_1_method_23_code 65 = .ok (.getfield 81, 3) := by decide +kernel
theorem d_Si_findAlike_68 : decode prog_1_method_23_code 68 = .ok (.iload_n 1, 1) := by decide +kernel
theorem d_Si_findAlike_69 : decode prog_1_method_23_code 69 = .ok (.iaload, 1) := by decide +kernel
theorem d_Si_findAlike_70 : decode prog_1_method_23_code 70 = .ok (.invokevirtual 160, 3) := by decide +kernel
theorem d_Si_findAlike_73 : decode prog_1_method_23_code 73 = .ok (.aload_n 0, 1) := by decide +kernel
theorem d_Si_findAlike_74 : decode prog_1_method_23_code 74 = .ok (.getfield 33, 3) := by decide +kernel
theorem d_Si_findAlike_77 : decode prog_1_method_23_code 77 = .ok (.getfield 147, 3) := by decide +kernel
theorem d_Si_findAlike_80 : decode prog_1_method_23_code 80 = .ok (.iload_n 2, 1) := by decide +kernel
theorem d_Si_findAlike_81 : decode prog_1_method_23_code 81 = .ok (.aload_n 0, 1) := by decide +kernel
theorem d_Si_findAlike_82 : decode prog_1_method_23_code 82 = .ok (.getfield 26, 3) := by decide +kernel
theorem d_Si_findAlike_85 : decode prog_1_method_23_code 85 = .ok (.invokevirtual 163, 3) := by decide +kernel
theorem d_Si_findAlike_88 : decode prog_1_method_23_code 88 = .ok (.iastore, 1) := by decide +kernel
theorem d_Si_findAlike_89 : decode prog_1_method_23_code 89 = .ok (.iinc 2 1, 3) := by decide +kernel
theorem d_Si_findAlike_92 : decode prog_1_method_23_code 92 = .ok (.goto (-60), 3) := by decide +kernel
theorem d_Si_findAlike_95 : decode prog_1_method_23_code 95 = .ok (.return_, 1) := by decide +kernel
theorem d_Pa_restart_0 : decode prog_4_method_3_code 0 = .ok (.iconst 0, 1) := by decide +kernel
theorem d_Pa_restart_1 : decode prog_4_method_3_code 1 = .ok (.istore_n 1, 1) := by decide +kernel
theorem d_Pa_restart_2 : decode prog_4_method_3_code 2 = .ok (.iload_n 1, 1) := by decide +kernel
theorem d_Pa_restart_3 : decode prog_4_method_3_code 3 = .ok (.aload_n 0, 1) := by decide +kernel
theorem d_Pa_restart_4 : decode prog_4_method_3_code 4 = .ok (.getfield 18, 3) := by decide +kernel
theorem d_Pa_restart_7 : decode prog_4_method_3_code 7 = .ok (.if_icmp .gt 16, 3) := by decide +kernel
theorem d_Pa_restart_10 : decode prog_4_method_3_code 10 = .ok (.aload_n 0, 1) := by decide +kernel
theorem d_Pa_restart_11 : decode prog_4_method_3_code 11 = .ok (.getfield 15, 3) := by decide +kernel
theorem d_Pa_restart_14 : decode prog_4_method_3_code 14 = .ok (.iload_n 1, 1) := by decide +kernel
theorem d_Pa_restart_15 : decode prog_4_method_3_code 15 = .ok (.iload_n 1, 1) := by decide +kernel
theorem d_Pa_restart_16 : decode prog_4_method_3_code 16 = .ok (.iastore, 1) := by decide +kernel
theorem d_Pa_restart_17 : decode prog_4_method_3_code 17 = .ok (.iinc 1 1, 3) := by decide +kernel
theorem d_Pa_restart_20 : decode prog_4_method_3_code 20 = .ok (.goto (-18), 3) := by decide +kernel
theorem d_Pa_restart_23 : decode prog_4_method_3_code 23 = .ok (.return_, 1) := by decide +kernel
theorem d_Pa_goOver_0 : decode prog_4_method_4_code 0 = .ok (.iload_n 1, 1) := by decide +kernel
theorem d_Pa_goOver_1 : decode prog_4_method_4_code 1 = .ok (.iconst 1, 1) := by decide +kernel
theorem d_Pa_goOver_2 : decode prog_4_method_4_code 2 = .ok (.if_icmp .ne 8, 3) := by decide +kernel
theorem d_Pa_goOver_5 : decode prog_4_method_4_code 5 = .ok (.aload_n 0, 1) := by decide +kernel
theorem d_Pa_goOver_6 : decode prog_4_method_4_code 6 = .ok (.invokevirtual 30, 3) := by decide +kernel
theorem d_Pa_goOver_9 : decode prog_4_method_4_code 9 = .ok (.return_, 1) := by decide +kernel
theorem d_Pa_goOver_10 : decode prog_4_method_4_code 10 = .ok (.aload_n 0, 1) := by decide +kernel
theorem d_Pa_goOver_11 : decode prog_4_method_4_code 11 = .ok (.getfield 15, 3) := by decide +kernel
theorem d_Pa_goOver_14 : decode prog_4_method_4_code 14 = .ok (.iconst 0, 1) := by decide +kernel
theorem d_Pa_goOver_15 : decode prog_4_method_4_code 15 = .ok (.iaload, 1) := by decide +kernel
theorem d_Pa_goOver_16 : decode prog_4_method_4_code 16 = .ok (.istore_n 2, 1) := by decide +kernel
theorem d_Pa_goOver_17 : decode prog_4_method_4_code 17 = .ok (.iconst 1, 1) := by decide +kernel
theorem d_Pa_goOver_18 : decode prog_4_method_4_code 18 = .ok (.istore_n 3, 1) := by decide +kernel
theorem d_Pa_goOver_19 : decode prog_4_method_4_code 19 = .ok (.iload_n 3, 1) := by decide +kernel
theorem d_Pa_goOver_20 : decode prog_4_method_4_code 20 = .ok (.aload_n 0, 1) := by decide +kernel
theorem d_Pa_goOver_21 : decode prog_4_method_4_code 21 = .ok (.getfield 18, 3) := by decide +kernel
theorem d_Pa_goOver_24 : decode prog_4_method_4_code 24 = .ok (.if_icmp .gt 71, 3) := by decide +kernel
theorem d_Pa_goOver_27 : decode prog_4_method_4_code 27 = .ok (.iload_n 2, 1) := by decide +kernel
theorem d_Pa_goOver_28 : decode prog_4_method_4_code 28 = .ok (.aload_n 0, 1) := by decide +kernel
theorem d_Pa_goOver_29 : decode prog_4_method_4_code 29 = .ok (.getfield 9, 3) := by decide +kernel
theorem d_Pa_goOver_32 : decode prog_4_method_4_code 32 = .ok (.iload_n 3, 1) := by decide +kernel
theorem d_Pa_goOver_33 : decode prog_4_method_4_code 33 = .ok (.iconst 1, 1) := by decide +kernel
theorem d_Pa_goOver_34 : decode prog_4_method_4_code 34 = .ok (.isub, 1) := by decide +kernel
theorem d_Pa_goOver_35 : decode prog_4_method_4_code 35 = .ok (.iaload, 1) := by decide +kernel
theorem d_Pa_goOver_36 : decode prog_4_method_4_code 36 = .ok (.iload_n 1, 1) := by decide +kernel
theorem d_Pa_goOver_37 : decode prog_4_method_4_code 37 = .ok (.if_icmp .ne 7, 3) := by decide +kernel
theorem d_Pa_goOver_40 : decode prog_4_method_4_code 40 = .ok (.iconst 0, 1) := by decide +kernel
theorem d_Pa_goOver_41 : decode prog_4_method_4_code 41 = .ok (.goto 4, 3) := by decide +kernel
theorem d_Pa_goOver_44 : decode prog_4_method_4_code 44 = .ok (.iconst 1, 1) := by decide +kernel
theorem d_Pa_goOver_45 : decode prog_4_method_4_code 45 = .ok (.iadd, 1) := by decide +kernel
theorem d_Pa_goOver_46 : decode prog_4_method_4_code 46 = .ok (.istore 4, 2) := by decide +kernel
theorem d_Pa_goOver_48 : decode prog_4_method_4_code 48 = .ok (.aload_n 0, 1) := by decide +kernel
theorem d_Pa_goOver_49 : decode prog_4_method_4_code 49 = .ok (.getfield 15, 3) := by decide +kernel
theorem d_Pa_goOver_52 : decode prog_4_method_4_code 52 = .ok (.iload_n 3, 1) := by decide +kernel
theorem d_Pa_goOver_53 : decode prog_4_method_4_code 53 = .ok (.iaload, 1) := by decide +kernel
theorem d_Pa_goOver_54 : decode prog_4_method_4_code 54 = .ok (.aload_n 0, 1) := by decide +kernel
theorem d_Pa_goOver_55 : decode prog_4_method_4_code 55 = .ok (.getfield 15, 3) := by decide +kernel
theorem d_Pa_goOver_58 : decode prog_4_method_4_code 58 = .ok (.iload_n 3, 1) := by decide +kernel
theorem d_Pa_goOver_59 : decode prog_4_method_4_code 59 = .ok (.iconst 1, 1) := by decide +kernel
theorem d_Pa_goOver_60 : decode prog_4_method_4_code 60 = .ok (.isub, 1) := by decide +kernel
theorem d_Pa_goOver_61 : decode prog_4_method_4_code 61 = .ok (.iaload, 1) := by decide +kernel
theorem d_Pa_goOver_62 : decode prog_4_method_4_code 62 = .ok (.invokestatic 33, 3) := by decide +kernel
theorem d_Pa_goOver_65 : decode prog_4_method_4_code 65 = .ok (.iconst 1, 1) := by decide +kernel
theorem d_Pa_goOver_66 : decode prog_4_method_4_code 66 = .ok (.iadd, 1) := by decide +kernel
theorem d_Pa_goOver_67 : decode prog_4_method_4_code 67 = .ok (.istore 5, 2) := by decide +kernel
theorem d_Pa_goOver_69 : decode prog_4_method_4_code 69 = .ok (.aload_n 0, 1) := by decide +kernel
theorem d_Pa_goOver_70 : decode prog_4_method_4_code 70 = .ok (.getfield 15, 3) := by decide +kernel
theorem d_Pa_goOver_73 : decode prog_4_method_4_code 73 = .ok (.iload_n 3, 1) := by decide +kernel
theorem d_Pa_goOver_74 : decode prog_4_method_4_code 74 = .ok (.iaload, 1) := by decide +kernel
theorem d_Pa_goOver_75 : decode prog_4_method_4_code 75 = .ok (.istore_n 2, 1) := by decide +kernel
theorem d_Pa_goOver_76 : decode prog_4_method_4_code 76 = .ok (.aload_n 0, 1) := by decide +kernel
theorem d_Pa_goOver_77 : decode prog_4_method_4_code 77 = .ok (.getfield 15, 3) := by decide +kernel
theorem d_Pa_goOver_80 : decode prog_4_method_4_code 80 = .ok (.iload_n 3, 1) := by decide +kernel
theorem d_Pa_goOver_81 : decode prog_4_method_4_code 81 = .ok (.iload 4, 2) := by decide +kernel
theorem d_Pa_goOver_83 : decode prog_4_method_4_code 83 = .ok (.iload 5, 2) := by decide +kernel
theorem d_Pa_goOver_85 : decode prog_4_method_4_code 85 = .ok (.invokestatic 33, 3) := by decide +kernel
theorem d_Pa_goOver_88 : decode prog_4_method_4_code 88 = .ok (.iastore, 1) := by decide +kernel
theorem d_Pa_goOver_89 : decode prog_4_method_4_code 89 = .ok (.iinc 3 1, 3) := by decide +kernel
theorem d_Pa_goOver_92 : decode prog_4_method_4_code 92 = .ok (.goto (-73), 3) := by decide +kernel
theorem d_Pa_goOver_95 : decode prog_4_method_4_code 95 = .ok (.return_, 1) := by decide +kernel
theorem d_Pa_distance_0 : decode prog_4_method_5_code 0 = .ok (.aload_n 0, 1) := by decide +kernel
theorem d_Pa_distance_1 : decode prog_4_method_5_code 1 = .ok (.getfield 15, 3) := by decide +kernel
theorem d_Pa_distance_4 : decode prog_4_method_5_code 4 = .ok (.aload_n 0, 1) := by decide +kernel
theorem d_Pa_distance_5 : decode prog_4_method_5_code 5 = .ok (.getfield 18, 3) := by decide +kernel
theorem d_Pa_distance_8 : decode prog_4_method_5_code 8 = .ok (.iaload, 1) := by decide +kernel
theorem d_Pa_distance_9 : decode prog_4_method_5_code 9 = .ok (.ireturn, 1) := by decide +kernel
theorem d_Fi_within_0 : decode prog_2_method_3_code 0 = .ok (.iconst 0, 1) := by decide +kernel
theorem d_Fi_within_1 : decode prog_2_method_3_code 1 = .ok (.istore_n 2, 1) := by decide +kernel
theorem d_Fi_within_2 : decode prog_2_method_3_code 2 = .ok (.iconst 0, 1) := by decide +kernel
theorem d_Fi_within_3 : decode prog_2_method_3_code 3 = .ok (.istore_n 3, 1) := by decide +kernel
theorem d_Fi_within_4 : decode prog_2_method_3_code 4 = .ok (.iload_n 3, 1) := by decide +kernel
theorem d_Fi_within_5 : decode prog_2_method_3_code 5 = .ok (.aload_n 0, 1) := by decide +kernel
theorem d_Fi_within_6 : decode prog_2_method_3_code 6 = .ok (.getfield 15, 3) := by decide +kernel
theorem d_Fi_within_9 : decode prog_2_method_3_code 9 = .ok (.if_icmp .ge 22, 3) := by decide +kernel
theorem d_Fi_within_12 : decode prog_2_method_3_code 12 = .ok (.aload_n 0, 1) := by decide +kernel
theorem d_Fi_within_13 : decode prog_2_method_3_code 13 = .ok (.getfield 9, 3) := by decide +kernel
theorem d_Fi_within_16 : decode prog_2_method_3_code 16 = .ok (.iload_n 3, 1) := by decide +kernel
theorem d_Fi_within_17 : decode prog_2_method_3_code 17 = .ok (.iaload, 1) := by decide +kernel
theorem d_Fi_within_18 : decode prog_2_method_3_code 18 = .ok (.iload_n 1, 1) := by decide +kernel
theorem d_Fi_within_19 : decode prog_2_method_3_code 19 = .ok (.if_icmp .gt 6, 3) := by decide +kernel
theorem d_Fi_within_22 : decode prog_2_method_3_code 22 = .ok (.iinc 2 1, 3) := by decide +kernel
theorem d_Fi_within_25 : decode prog_2_method_3_code 25 = .ok (.iinc 3 1, 3) := by decide +kernel
theorem d_Fi_within_28 : decode prog_2_method_3_code 28 = .ok (.goto (-24), 3) := by decide +kernel
theorem d_Fi_within_31 : decode prog_2_method_3_code 31 = .ok (.iload_n 2, 1) := by decide +kernel
theorem d_Fi_within_32 : decode prog_2_method_3_code 32 = .ok (.ireturn, 1) := by decide +kernel
theorem d_Si_match_0 : decode prog_1_method_17_code 0 = .ok (.aload_n 0, 1) := by decide +kernel
theorem d_Si_match_1 : decode prog_1_method_17_code 1 = .ok (.getfield 26, 3) := by decide +kernel
theorem d_Si_match_4 : decode prog_1_method_17_code 4 = .ok (.lload_n 1, 1) := by decide +kernel
theorem d_Si_match_5 : decode prog_1_method_17_code 5 = .ok (.invokevirtual 115, 3) := by decide +kernel
theorem d_Si_match_8 : decode prog_1_method_17_code 8 = .ok (.ifCond .eq 10, 3) := by decide +kernel
theorem d_Si_match_11 : decode prog_1_method_17_code 11 = .ok (.iload_n 3, 1) := by decide +kernel
theorem d_Si_match_12 : decode prog_1_method_17_code 12 = .ok (.invokestatic 138, 3) := by decide +kernel
theorem d_Si_match_15 : decode prog_1_method_17_code 15 = .ok (.ifCond .ne 5, 3) := by decide +kernel
theorem d_Si_match_18 : decode prog_1_method_17_code 18 = .ok (.iconst (-1), 1) := by decide +kernel
theorem d_Si_match_19 : decode prog_1_method_17_code 19 = .ok (.ireturn, 1) := by decide +kernel
theorem d_Si_match_20 : decode prog_1_method_17_code 20 = .ok (.aload_n 0, 1) := by decide +kernel
theorem d_Si_match_21 : decode prog_1_method_17_code 21 = .ok (.invokevirtual 141, 3) := by decide +kernel
theorem d_Si_match_24 : decode prog_1_method_17_code 24 = .ok (.aload_n 0, 1) := by decide +kernel
theorem d_Si_match_25 : decode prog_1_method_17_code 25 = .ok (.getfield 33, 3) := by decide +kernel
theorem d_Si_match_28 : decode prog_1_method_17_code 28 = .ok (.iload 4, 2) := by decide +kernel
theorem d_Si_match_30 : decode prog_1_method_17_code 30 = .ok (.iload_n 3, 1) := by decide +kernel
theorem d_Si_match_31 : decode prog_1_method_17_code 31 = .ok (.invokevirtual 132, 3) := by decide +kernel
theorem d_Si_match_34 : decode prog_1_method_17_code 34 = .ok (.istore 5, 2) := by decide +kernel
theorem d_Si_match_36 : decode prog_1_method_17_code 36 = .ok (.iload 5, 2) := by decide +kernel
theorem d_Si_match_38 : decode prog_1_method_17_code 38 = .ok (.iconst (-1), 1) := by decide +kernel
theorem d_Si_match_39 : decode prog_1_method_17_code 39 = .ok (.if_icmp .ne 5, 3) := by decide +kernel
theorem d_Si_match_42 : decode prog_1_method_17_code 42 = .ok (.iconst (-1), 1) := by decide +kernel
theorem d_Si_match_43 : decode prog_1_method_17_code 43 = .ok (.ireturn, 1) := by decide +kernel
theorem d_Si_match_44 : decode prog_1_method_17_code 44 = .ok (.aload_n 0, 1) := by decide +kernel
theorem d_Si_match_45 : decode prog_1_method_17_code 45 = .ok (.getfield 42, 3) := by decide +kernel
theorem d_Si_match_48 : decode prog_1_method_17_code 48 = .ok (.iload 5, 2) := by decide +kernel
theorem d_Si_match_50 : decode prog_1_method_17_code 50 = .ok (.invokevirtual 135, 3) := by decide +kernel
theorem d_Si_match_53 : decode prog_1_method_17_code 53 = .ok (.istore 6, 2) := by decide +kernel
theorem d_Si_match_55 : decode prog_1_method_17_code 55 = .ok (.iload 5, 2) := by decide +kernel
theorem d_Si_match_57 : decode prog_1_method_17_code 57 = .ok (.aload_n 0, 1) := by decide +kernel
theorem d_Si_match_58 : decode prog_1_method_17_code 58 = .ok (.getfield 42, 3) := by decide +kernel
theorem d_Si_match_61 : decode prog_1_method_17_code 61 = .ok (.getfield 106, 3) := by decide +kernel
theorem d_Si_match_64 : decode prog_1_method_17_code 64 = .ok (.iload 6, 2) := by decide +kernel
theorem d_Si_match_66 : decode prog_1_method_17_code 66 = .ok (.iaload, 1) := by decide +kernel
theorem d_Si_match_67 : decode prog_1_method_17_code 67 = .ok (.isub, 1) := by decide +kernel
theorem d_Si_match_68 : decode prog_1_method_17_code 68 = .ok (.istore 7, 2) := by decide +kernel
theorem d_Si_match_70 : decode prog_1_method_17_code 70 = .ok (.sipush 10000, 3) := by decide +kernel
theorem d_Si_match_73 : decode prog_1_method_17_code 73 = .ok (.iload 6, 2) := by decide +kernel
theorem d_Si_match_75 : decode prog_1_method_17_code 75 = .ok (.imul, 1) := by decide +kernel
theorem d_Si_match_76 : decode prog_1_method_17_code 76 = .ok (.bipush 10, 2) := by decide +kernel
theorem d_Si_match_78 : decode prog_1_method_17_code 78 = .ok (.iload 7, 2) := by decide +kernel
theorem d_Si_match_80 : decode prog_1_method_17_code 80 = .ok (.imul, 1) := by decide +kernel
theorem d_Si_match_81 : decode prog_1_method_17_code 81 = .ok (.iadd, 1) := by decide +kernel
theorem d_Si_match_82 : decode prog_1_method_17_code 82 = .ok (.aload_n 0, 1) := by decide +kernel
theorem d_Si_match_83 : decode prog_1_method_17_code 83 = .ok (.getfield 33, 3) := by decide +kernel
theorem d_Si_match_86 : decode prog_1_method_17_code 86 = .ok (.getfield 147, 3) := by decide +kernel
theorem d_Si_match_89 : decode prog_1_method_17_code 89 = .ok (.iload 5, 2) := by decide +kernel
theorem d_Si_match_91 : decode prog_1_method_17_code 91 = .ok (.iaload, 1) := by decide +kernel
theorem d_Si_match_92 : decode prog_1_method_17_code 92 = .ok (.iadd, 1) := by decide +kernel
theorem d_Si_match_93 : decode prog_1_method_17_code 93 = .ok (.ireturn, 1) := by decide +kernel
theorem d_La_cell_0 : decode method_2_code 0 = .ok (.iload_n 1, 1) := by decide +kernel
theorem d_La_cell_1 : decode method_2_code 1 = .ok (.aload_n 0, 1) := by decide +kernel
theorem d_La_cell_2 : decode method_2_code 2 = .ok (.arraylength, 1) := by decide +kernel
theorem d_La_cell_3 : decode method_2_code 3 = .ok (.if_icmp .ge 9, 3) := by decide +kernel
theorem d_La_cell_6 : decode method_2_code 6 = .ok (.aload_n 0, 1) := by decide +kernel
theorem d_La_cell_7 : decode method_2_code 7 = .ok (.iload_n 1, 1) := by decide +kernel
theorem d_La_cell_8 : decode method_2_code 8 = .ok (.iaload, 1) := by decide +kernel
theorem d_La_cell_9 : decode method_2_code 9 = .ok (.goto 4, 3) := by decide +kernel
theorem d_La_cell_12 : decode method_2_code 12 = .ok (.iconst 0, 1) := by decide +kernel
theorem d_La_cell_13 : decode method_2_code 13 = .ok (.ireturn, 1) := by decide +kernel
theorem d_Mo_init_0 : decode prog_7_method_1_code 0 = .ok (.aload_n 0, 1) := by decide +kernel
theorem d_Mo_init_1 : decode prog_7_method_1_code 1 = .ok (.invokespecial 1, 3) := by decide +kernel
theorem d_Mo_init_4 : decode prog_7_method_1_code 4 = .ok (.aload_n 0, 1) := by decide +kernel
theorem d_Mo_init_5 : decode prog_7_method_1_code 5 = .ok (.bipush 97, 2) := by decide +kernel
theorem d_Mo_init_7 : decode prog_7_method_1_code 7 = .ok (.newarray .int, 2) := by decide +kernel
theorem d_Mo_init_9 : decode prog_7_method_1_code 9 = .ok (.putfield 7, 3) := by decide +kernel
theorem d_Mo_init_12 : decode prog_7_method_1_code 12 = .ok (.aload_n 0, 1) := by decide +kernel
theorem d_Mo_init_13 : decode prog_7_method_1_code 13 = .ok (.iconst (-1), 1) := by decide +kernel
theorem d_Mo_init_14 : decode prog_7_method_1_code 14 = .ok (.putfield 13, 3) := by decide +kernel
theorem d_Mo_init_17 : decode prog_7_method_1_code 17 = .ok (.aload_n 0, 1) := by decide +kernel
theorem d_Mo_init_18 : decode prog_7_method_1_code 18 = .ok (.bipush 97, 2) := by decide +kernel
theorem d_Mo_init_20 : decode prog_7_method_1_code 20 = .ok (.newarray .int, 2) := by decide +kernel
theorem d_Mo_init_22 : decode prog_7_method_1_code 22 = .ok (.putfield 17, 3) := by decide +kernel
theorem d_Mo_init_25 : decode prog_7_method_1_code 25 = .ok (.aload_n 0, 1) := by decide +kernel
theorem d_Mo_init_26 : decode prog_7_method_1_code 26 = .ok (.bipush 97, 2) := by decide +kernel
theorem d_Mo_init_28 : decode prog_7_method_1_code 28 = .ok (.newarray .int, 2) := by decide +kernel
theorem d_Mo_init_30 : decode prog_7_method_1_code 30 = .ok (.putfield 20, 3) := by decide +kernel
theorem d_Mo_init_33 : decode prog_7_method_1_code 33 = .ok (.aload_n 0, 1) := by decide +kernel
theorem d_Mo_init_34 : decode prog_7_method_1_code 34 = .ok (.bipush 97, 2) := by decide +kernel
theorem d_Mo_init_36 : decode prog_7_method_1_code 36 = .ok (.newarray .int, 2) := by decide +kernel
theorem d_Mo_init_38 : decode prog_7_method_1_code 38 = .ok (.putfield 23, 3) := by decide +kernel
theorem d_Mo_init_41 : decode prog_7_method_1_code 41 = .ok (.aload_n 0, 1) := by decide +kernel
theorem d_Mo_init_42 : decode prog_7_method_1_code 42 = .ok (.bipush 97, 2) := by decide +kernel
theorem d_Mo_init_44 : decode prog_7_method_1_code 44 = .ok (.newarray .boolean, 2) := by decide +kernel
theorem d_Mo_init_46 : decode prog_7_method_1_code 46 = .ok (.putfield 26, 3) := by decide +kernel
theorem d_Mo_init_49 : decode prog_7_method_1_code 49 = .ok (.aload_n 0, 1) := by decide +kernel
theorem d_Mo_init_50 : decode prog_7_method_1_code 50 = .ok (.bipush 97, 2) := by decide +kernel
theorem d_Mo_init_52 : decode prog_7_method_1_code 52 = .ok (.newarray .int, 2) := by decide +kernel
theorem d_Mo_init_54 : decode prog_7_method_1_code 54 = .ok (.putfield 30, 3) := by decide +kernel
theorem d_Mo_init_57 : decode prog_7_method_1_code 57 = .ok (.aload_n 0, 1) := by decide +kernel
theorem d_Mo_init_58 : decode prog_7_method_1_code 58 = .ok (.bipush 8, 2) := by decide +kernel
theorem d_Mo_init_60 : decode prog_7_method_1_code 60 = .ok (.newarray .int, 2) := by decide +kernel
theorem d_Mo_init_62 : decode prog_7_method_1_code 62 = .ok (.putfield 33, 3) := by decide +kernel
theorem d_Mo_init_65 : decode prog_7_method_1_code 65 = .ok (.aload_n 0, 1) := by decide +kernel
theorem d_Mo_init_66 : decode prog_7_method_1_code 66 = .ok (.bipush 9, 2) := by decide +kernel
theorem d_Mo_init_68 : decode prog_7_method_1_code 68 = .ok (.newarray .int, 2) := by decide +kernel
theorem d_Mo_init_70 : decode prog_7_method_1_code 70 = .ok (.putfield 36, 3) := by decide +kernel
theorem d_Mo_init_73 : decode prog_7_method_1_code 73 = .ok (.aload_n 0, 1) := by decide +kernel
theorem d_Mo_init_74 : decode prog_7_method_1_code 74 = .ok (.bipush 97, 2) := by decide +kernel
theorem d_Mo_init_76 : decode prog_7_method_1_code 76 = .ok (.newarray .int, 2) := by decide +kernel
theorem d_Mo_init_78 : decode prog_7_method_1_code 78 = .ok (.putfield 39, 3) := by decide +kernel
theorem d_Mo_init_81 : decode prog_7_method_1_code 81 = .ok (.aload_n 0, 1) := by decide +kernel
theorem d_Mo_init_82 : decode prog_7_method_1_code 82 = .ok (.iload_n 1, 1) := by decide +kernel
theorem d_Mo_init_83 : decode prog_7_method_1_code 83 = .ok (.iconst 2, 1) := by decide +kernel
theorem d_Mo_init_84 : decode prog_7_method_1_code 84 = .ok (.if_icmp .lt 9, 3) := by decide +kernel
theorem d_Mo_init_87 : decode prog_7_method_1_code 87 = .ok (.iload_n 1, 1) := by decide +kernel
theorem d_Mo_init_88 : decode prog_7_method_1_code 88 = .ok (.bipush 16, 2) := by decide +kernel
theorem d_Mo_init_90 : decode prog_7_method_1_code 90 = .ok (.if_icmp .le 7, 3) := by decide +kernel
theorem d_Mo_init_93 : decode prog_7_method_1_code 93 = .ok (.iconst 4, 1) := by decide +kernel
theorem d_Mo_init_94 : decode prog_7_method_1_code 94 = .ok (.goto 4, 3) := by decide +kernel
theorem d_Mo_init_97 : decode prog_7_method_1_code 97 = .ok (.iload_n 1, 1) := by decide +kernel
theorem d_Mo_init_98 : decode prog_7_method_1_code 98 = .ok (.putfield 42, 3) := by decide +kernel
theorem d_Mo_init_101 : decode prog_7_method_1_code 101 = .ok (.return_, 1) := by decide +kernel
theorem d_Mo_put_0 : decode prog_7_method_5_code 0 = .ok (.iconst 0, 1) := by decide +kernel
theorem d_Mo_put_1 : decode prog_7_method_5_code 1 = .ok (.istore_n 3, 1) := by decide +kernel
theorem d_Mo_put_2 : decode prog_7_method_5_code 2 = .ok (.iconst 0, 1) := by decide +kernel
theorem d_Mo_put_3 : decode prog_7_method_5_code 3 = .ok (.istore 4, 2) := by decide +kernel
theorem d_Mo_put_5 : decode prog_7_method_5_code 5 = .ok (.iload 4, 2) := by decide +kernel
theorem d_Mo_put_7 : decode prog_7_method_5_code 7 = .ok (.bipush 8, 2) := by decide +kernel
theorem d_Mo_put_9 : decode prog_7_method_5_code 9 = .ok (.if_icmp .ge 45, 3) := by decide +kernel
theorem d_Mo_put_12 : decode prog_7_method_5_code 12 = .ok (.lload_n 1, 1) := by decide +kernel
theorem d_Mo_put_13 : decode prog_7_method_5_code 13 = .ok (.iload 4, 2) := by decide +kernel
theorem d_Mo_put_15 : decode prog_7_method_5_code 15 = .ok (.invokestatic 51, 3) := by decide +kernel
theorem d_Mo_put_18 : decode prog_7_method_5_code 18 = .ok (.istore 5, 2) := by decide +kernel
theorem d_Mo_put_20 : decode prog_7_method_5_code 20 = .ok (.iload 5, 2) := by decide +kernel
theorem d_Mo_put_22 : decode prog_7_method_5_code 22 = .ok (.ifCond .eq 13, 3) := by decide +kernel
theorem d_Mo_put_25 : decode prog_7_method_5_code 25 = .ok (.iload 5, 2) := by decide +kernel
theorem d_Mo_put_27 : decode prog_7_method_5_code 27 = .ok (.invokestatic 55, 3) := by decide +kernel
theorem d_Mo_put_30 : decode prog_7_method_5_code 30 = .ok (.ifCond .ne 5, 3) := by decide +kernel
theorem d_Mo_put_33 : decode prog_7_method_5_code 33 = .ok (.iconst 0, 1) := by decide +kernel
theorem d_Mo_put_34 : decode prog_7_method_5_code 34 = .ok (.ireturn, 1) := by decide +kernel
theorem d_Mo_put_35 : decode prog_7_method_5_code 35 = .ok (.iload_n 3, 1) := by decide +kernel
theorem d_Mo_put_36 : decode prog_7_method_5_code 36 = .ok (.iload 5, 2) := by decide +kernel
theorem d_Mo_put_38 : decode prog_7_method_5_code 38 = .ok (.ifCond .ne 7, 3) := by decide +kernel
theorem d_Mo_put_41 : decode prog_7_method_5_code 41 = .ok (.iconst 0, 1) := by decide +kernel
theorem d_Mo_put_42 : decode prog_7_method_5_code 42 = .ok (.goto 4, 3) := by decide +kernel
theorem d_Mo_put_45 : decode prog_7_method_5_code 45 = .ok (.iconst 1, 1) := by decide +kernel
theorem d_Mo_put_46 : decode prog_7_method_5_code 46 = .ok (.iadd, 1) := by decide +kernel
theorem d_Mo_put_47 : decode prog_7_method_5_code 47 = .ok (.istore_n 3, 1) := by decide +kernel
theorem d_Mo_put_48 : decode prog_7_method_5_code 48 = .ok (.iinc 4 1, 3) := by decide +kernel
theorem d_Mo_put_51 : decode prog_7_method_5_code 51 = .ok (.goto (-46), 3) := by decide +kernel
theorem d_Mo_put_54 : decode prog_7_method_5_code 54 = .ok (.aload_n 0, 1) := by decide +kernel
theorem d_Mo_put_55 : decode prog_7_method_5_code 55 = .ok (.getfield 58, 3) := by decide +kernel
theorem d_Mo_put_58 : decode prog_7_method_5_code 58 = .ok (.iload_n 3, 1) := by decide +kernel
