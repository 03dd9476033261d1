/-! Decode rows of GrammarGuard$Machine,GrammarGuard$Signs (wip/tools/gen_tabs.py) -/
theorem d_1_0 : decode prog_10_method_1_code 0 = .ok (.aload_n 0, 1) := by decide +kernel
theorem d_1_1 : decode prog_10_method_1_code 1 = .ok (.invokespecial 3, 3) := by decide +kernel
theorem d_1_4 : decode prog_10_method_1_code 4 = .ok (.aload_n 0, 1) := by decide +kernel
theorem d_1_5 : decode prog_10_method_1_code 5 = .ok (.sipush 300, 3) := by decide +kernel
theorem d_1_8 : decode prog_10_method_1_code 8 = .ok (.newarray .int, 2) := by decide +kernel
theorem d_1_10 : decode prog_10_method_1_code 10 = .ok (.putfield 9, 3) := by decide +kernel
theorem d_1_13 : decode prog_10_method_1_code 13 = .ok (.aload_n 0, 1) := by decide +kernel
theorem d_1_14 : decode prog_10_method_1_code 14 = .ok (.sipush 300, 3) := by decide +kernel
theorem d_1_17 : decode prog_10_method_1_code 17 = .ok (.newarray .int, 2) := by decide +kernel
theorem d_1_19 : decode prog_10_method_1_code 19 = .ok (.putfield 15, 3) := by decide +kernel
theorem d_1_22 : decode prog_10_method_1_code 22 = .ok (.aload_n 0, 1) := by decide +kernel
theorem d_1_23 : decode prog_10_method_1_code 23 = .ok (.sipush 300, 3) := by decide +kernel
theorem d_1_26 : decode prog_10_method_1_code 26 = .ok (.newarray .int, 2) := by decide +kernel
theorem d_1_28 : decode prog_10_method_1_code 28 = .ok (.putfield 18, 3) := by decide +kernel
theorem d_1_31 : decode prog_10_method_1_code 31 = .ok (.return_, 1) := by decide +kernel
theorem d_5_0 : decode prog_5_method_1_code 0 = .ok (.aload_n 0, 1) := by decide +kernel
theorem d_5_1 : decode prog_5_method_1_code 1 = .ok (.invokespecial 3, 3) := by decide +kernel
theorem d_5_4 : decode prog_5_method_1_code 4 = .ok (.aload_n 0, 1) := by decide +kernel
theorem d_5_5 : decode prog_5_method_1_code 5 = .ok (.iconst 1, 1) := by decide +kernel
theorem d_5_6 : decode prog_5_method_1_code 6 = .ok (.putfield 9, 3) := by decide +kernel
theorem d_5_9 : decode prog_5_method_1_code 9 = .ok (.aload_n 0, 1) := by decide +kernel
theorem d_5_10 : decode prog_5_method_1_code 10 = .ok (.sipush 400, 3) := by decide +kernel
theorem d_5_13 : decode prog_5_method_1_code 13 = .ok (.newarray .int, 2) := by decide +kernel
theorem d_5_15 : decode prog_5_method_1_code 15 = .ok (.putfield 15, 3) := by decide +kernel
theorem d_5_18 : decode prog_5_method_1_code 18 = .ok (.return_, 1) := by decide +kernel
theorem d_8_0 : decode prog_5_method_8_code 0 = .ok (.aload_n 0, 1) := by decide +kernel
theorem d_8_1 : decode prog_5_method_8_code 1 = .ok (.iconst 2, 1) := by decide +kernel
theorem d_8_2 : decode prog_5_method_8_code 2 = .ok (.putfield 9, 3) := by decide +kernel
theorem d_8_5 : decode prog_5_method_8_code 5 = .ok (.aload_n 0, 1) := by decide +kernel
theorem d_8_6 : decode prog_5_method_8_code 6 = .ok (.lconst 1, 1) := by decide +kernel
theorem d_8_7 : decode prog_5_method_8_code 7 = .ok (.putfield 19, 3) := by decide +kernel
theorem d_8_10 : decode prog_5_method_8_code 10 = .ok (.aload_n 0, 1) := by decide +kernel
theorem d_8_11 : decode prog_5_method_8_code 11 = .ok (.iconst 0, 1) := by decide +kernel
theorem d_8_12 : decode prog_5_method_8_code 12 = .ok (.iconst 1, 1) := by decide +kernel
theorem d_8_13 : decode prog_5_method_8_code 13 = .ok (.invokevirtual 29, 3) := by decide +kernel
theorem d_8_16 : decode prog_5_method_8_code 16 = .ok (.aload_n 0, 1) := by decide +kernel
theorem d_8_17 : decode prog_5_method_8_code 17 = .ok (.iconst 1, 1) := by decide +kernel
theorem d_8_18 : decode prog_5_method_8_code 18 = .ok (.iconst 1, 1) := by decide +kernel
theorem d_8_19 : decode prog_5_method_8_code 19 = .ok (.invokevirtual 29, 3) := by decide +kernel
theorem d_8_22 : decode prog_5_method_8_code 22 = .ok (.return_, 1) := by decide +kernel
theorem d_9_0 : decode prog_5_method_12_code 0 = .ok (.iconst 0, 1) := by decide +kernel
theorem d_9_1 : decode prog_5_method_12_code 1 = .ok (.istore_n 3, 1) := by decide +kernel
theorem d_9_2 : decode prog_5_method_12_code 2 = .ok (.iload_n 3, 1) := by decide +kernel
theorem d_9_3 : decode prog_5_method_12_code 3 = .ok (.bipush 10, 2) := by decide +kernel
theorem d_9_5 : decode prog_5_method_12_code 5 = .ok (.if_icmp .ge 16, 3) := by decide +kernel
theorem d_9_8 : decode prog_5_method_12_code 8 = .ok (.aload_n 0, 1) := by decide +kernel
theorem d_9_9 : decode prog_5_method_12_code 9 = .ok (.iload_n 1, 1) := by decide +kernel
theorem d_9_10 : decode prog_5_method_12_code 10 = .ok (.iload_n 3, 1) := by decide +kernel
theorem d_9_11 : decode prog_5_method_12_code 11 = .ok (.iload_n 2, 1) := by decide +kernel
theorem d_9_12 : decode prog_5_method_12_code 12 = .ok (.invokevirtual 35, 3) := by decide +kernel
theorem d_9_15 : decode prog_5_method_12_code 15 = .ok (.iinc 3 1, 3) := by decide +kernel
theorem d_9_18 : decode prog_5_method_12_code 18 = .ok (.goto (-16), 3) := by decide +kernel
theorem d_9_21 : decode prog_5_method_12_code 21 = .ok (.return_, 1) := by decide +kernel
theorem d_10_0 : decode prog_5_method_5_code 0 = .ok (.aload_n 0, 1) := by decide +kernel
theorem d_10_1 : decode prog_5_method_5_code 1 = .ok (.getfield 15, 3) := by decide +kernel
theorem d_10_4 : decode prog_5_method_5_code 4 = .ok (.iload_n 1, 1) := by decide +kernel
theorem d_10_5 : decode prog_5_method_5_code 5 = .ok (.bipush 10, 2) := by decide +kernel
theorem d_10_7 : decode prog_5_method_5_code 7 = .ok (.imul, 1) := by decide +kernel
theorem d_10_8 : decode prog_5_method_5_code 8 = .ok (.iload_n 2, 1) := by decide +kernel
theorem d_10_9 : decode prog_5_method_5_code 9 = .ok (.iadd, 1) := by decide +kernel
theorem d_10_10 : decode prog_5_method_5_code 10 = .ok (.iload_n 3, 1) := by decide +kernel
theorem d_10_11 : decode prog_5_method_5_code 11 = .ok (.iastore, 1) := by decide +kernel
theorem d_10_12 : decode prog_5_method_5_code 12 = .ok (.return_, 1) := by decide +kernel
theorem d_16_0 : decode prog_10_method_2_code 0 = .ok (.aload_n 0, 1) := by decide +kernel
theorem d_16_1 : decode prog_10_method_2_code 1 = .ok (.getfield 21, 3) := by decide +kernel
theorem d_16_4 : decode prog_10_method_2_code 4 = .ok (.sipush 300, 3) := by decide +kernel
theorem d_16_7 : decode prog_10_method_2_code 7 = .ok (.if_icmp .lt 5, 3) := by decide +kernel
theorem d_16_10 : decode prog_10_method_2_code 10 = .ok (.iconst (-1), 1) := by decide +kernel
theorem d_16_11 : decode prog_10_method_2_code 11 = .ok (.ireturn, 1) := by decide +kernel
theorem d_16_12 : decode prog_10_method_2_code 12 = .ok (.aload_n 0, 1) := by decide +kernel
theorem d_16_13 : decode prog_10_method_2_code 13 = .ok (.getfield 9, 3) := by decide +kernel
theorem d_16_16 : decode prog_10_method_2_code 16 = .ok (.aload_n 0, 1) := by decide +kernel
theorem d_16_17 : decode prog_10_method_2_code 17 = .ok (.getfield 21, 3) := by decide +kernel
theorem d_16_20 : decode prog_10_method_2_code 20 = .ok (.iload_n 1, 1) := by decide +kernel
theorem d_16_21 : decode prog_10_method_2_code 21 = .ok (.iastore, 1) := by decide +kernel
theorem d_16_22 : decode prog_10_method_2_code 22 = .ok (.aload_n 0, 1) := by decide +kernel
theorem d_16_23 : decode prog_10_method_2_code 23 = .ok (.dup, 1) := by decide +kernel
theorem d_16_24 : decode prog_10_method_2_code 24 = .ok (.getfield 21, 3) := by decide +kernel
theorem d_16_27 : decode prog_10_method_2_code 27 = .ok (.iconst 1, 1) := by decide +kernel
theorem d_16_28 : decode prog_10_method_2_code 28 = .ok (.iadd, 1) := by decide +kernel
theorem d_16_29 : decode prog_10_method_2_code 29 = .ok (.putfield 21, 3) := by decide +kernel
theorem d_16_32 : decode prog_10_method_2_code 32 = .ok (.aload_n 0, 1) := by decide +kernel
theorem d_16_33 : decode prog_10_method_2_code 33 = .ok (.getfield 21, 3) := by decide +kernel
theorem d_16_36 : decode prog_10_method_2_code 36 = .ok (.ireturn, 1) := by decide +kernel
theorem d_18_0 : decode prog_10_method_3_code 0 = .ok (.aload_n 0, 1) := by decide +kernel
theorem d_18_1 : decode prog_10_method_3_code 1 = .ok (.iconst 0, 1) := by decide +kernel
theorem d_18_2 : decode prog_10_method_3_code 2 = .ok (.putfield 25, 3) := by decide +kernel
theorem d_18_5 : decode prog_10_method_3_code 5 = .ok (.iconst 0, 1) := by decide +kernel
theorem d_18_6 : decode prog_10_method_3_code 6 = .ok (.istore_n 1, 1) := by decide +kernel
theorem d_18_7 : decode prog_10_method_3_code 7 = .ok (.iload_n 1, 1) := by decide +kernel
theorem d_18_8 : decode prog_10_method_3_code 8 = .ok (.aload_n 0, 1) := by decide +kernel
theorem d_18_9 : decode prog_10_method_3_code 9 = .ok (.getfield 21, 3) := by decide +kernel
theorem d_18_12 : decode prog_10_method_3_code 12 = .ok (.if_icmp .ge 55, 3) := by decide +kernel
theorem d_18_15 : decode prog_10_method_3_code 15 = .ok (.aload_n 0, 1) := by decide +kernel
theorem d_18_16 : decode prog_10_method_3_code 16 = .ok (.getfield 9, 3) := by decide +kernel
theorem d_18_19 : decode prog_10_method_3_code 19 = .ok (.iload_n 1, 1) := by decide +kernel
theorem d_18_20 : decode prog_10_method_3_code 20 = .ok (.iaload, 1) := by decide +kernel
theorem d_18_21 : decode prog_10_method_3_code 21 = .ok (.bipush 32, 2) := by decide +kernel
theorem d_18_23 : decode prog_10_method_3_code 23 = .ok (.if_icmp .eq 38, 3) := by decide +kernel
theorem d_18_26 : decode prog_10_method_3_code 26 = .ok (.aload_n 0, 1) := by decide +kernel
theorem d_18_27 : decode prog_10_method_3_code 27 = .ok (.getfield 15, 3) := by decide +kernel
theorem d_18_30 : decode prog_10_method_3_code 30 = .ok (.aload_n 0, 1) := by decide +kernel
theorem d_18_31 : decode prog_10_method_3_code 31 = .ok (.getfield 25, 3) := by decide +kernel
theorem d_18_34 : decode prog_10_method_3_code 34 = .ok (.aload_n 0, 1) := by decide +kernel
theorem d_18_35 : decode prog_10_method_3_code 35 = .ok (.getfield 9, 3) := by decide +kernel
theorem d_18_38 : decode prog_10_method_3_code 38 = .ok (.iload_n 1, 1) := by decide +kernel
theorem d_18_39 : decode prog_10_method_3_code 39 = .ok (.iaload, 1) := by decide +kernel
theorem d_18_40 : decode prog_10_method_3_code 40 = .ok (.iastore, 1) := by decide +kernel
theorem d_18_41 : decode prog_10_method_3_code 41 = .ok (.aload_n 0, 1) := by decide +kernel
theorem d_18_42 : decode prog_10_method_3_code 42 = .ok (.getfield 18, 3) := by decide +kernel
theorem d_18_45 : decode prog_10_method_3_code 45 = .ok (.aload_n 0, 1) := by decide +kernel
theorem d_18_46 : decode prog_10_method_3_code 46 = .ok (.getfield 25, 3) := by decide +kernel
theorem d_18_49 : decode prog_10_method_3_code 49 = .ok (.iload_n 1, 1) := by decide +kernel
theorem d_18_50 : decode prog_10_method_3_code 50 = .ok (.iastore, 1) := by decide +kernel
theorem d_18_51 : decode prog_10_method_3_code 51 = .ok (.aload_n 0, 1) := by decide +kernel
theorem d_18_52 : decode prog_10_method_3_code 52 = .ok (.dup, 1) := by decide +kernel
theorem d_18_53 : decode prog_10_method_3_code 53 = .ok (.getfield 25, 3) := by decide +kernel
theorem d_18_56 : decode prog_10_method_3_code 56 = .ok (.iconst 1, 1) := by decide +kernel
theorem d_18_57 : decode prog_10_method_3_code 57 = .ok (.iadd, 1) := by decide +kernel
theorem d_18_58 : decode prog_10_method_3_code 58 = .ok (.putfield 25, 3) := by decide +kernel
theorem d_18_61 : decode prog_10_method_3_code 61 = .ok (.iinc 1 1, 3) := by decide +kernel
theorem d_18_64 : decode prog_10_method_3_code 64 = .ok (.goto (-57), 3) := by decide +kernel
theorem d_18_67 : decode prog_10_method_3_code 67 = .ok (.aload_n 0, 1) := by decide +kernel
theorem d_18_68 : decode prog_10_method_3_code 68 = .ok (.aload_n 0, 1) := by decide +kernel
theorem d_18_69 : decode prog_10_method_3_code 69 = .ok (.getfield 21, 3) := by decide +kernel
theorem d_18_72 : decode prog_10_method_3_code 72 = .ok (.putfield 28, 3) := by decide +kernel
theorem d_18_75 : decode prog_10_method_3_code 75 = .ok (.aload_n 0, 1) := by decide +kernel
theorem d_18_76 : decode prog_10_method_3_code 76 = .ok (.iconst 0, 1) := by decide +kernel
theorem d_18_77 : decode prog_10_method_3_code 77 = .ok (.putfield 21, 3) := by decide +kernel
theorem d_18_80 : decode prog_10_method_3_code 80 = .ok (.return_, 1) := by decide +kernel
theorem d_20_0 : decode prog_10_method_4_code 0 = .ok (.iload_n 1, 1) := by decide +kernel
theorem d_20_1 : decode prog_10_method_4_code 1 = .ok (.aload_n 0, 1) := by decide +kernel
theorem d_20_2 : decode prog_10_method_4_code 2 = .ok (.getfield 25, 3) := by decide +kernel
theorem d_20_5 : decode prog_10_method_4_code 5 = .ok (.if_icmp .ge 12, 3) := by decide +kernel
theorem d_20_8 : decode prog_10_method_4_code 8 = .ok (.aload_n 0, 1) := by decide +kernel
theorem d_20_9 : decode prog_10_method_4_code 9 = .ok (.getfield 15, 3) := by decide +kernel
theorem d_20_12 : decode prog_10_method_4_code 12 = .ok (.iload_n 1, 1) := by decide +kernel
theorem d_20_13 : decode prog_10_method_4_code 13 = .ok (.iaload, 1) := by decide +kernel
theorem d_20_14 : decode prog_10_method_4_code 14 = .ok (.goto 4, 3) := by decide +kernel
theorem d_20_17 : decode prog_10_method_4_code 17 = .ok (.iconst (-1), 1) := by decide +kernel
theorem d_20_18 : decode prog_10_method_4_code 18 = .ok (.ireturn, 1) := by decide +kernel
theorem d_22_0 : decode prog_10_method_5_code 0 = .ok (.iload_n 1, 1) := by decide +kernel
theorem d_22_1 : decode prog_10_method_5_code 1 = .ok (.aload_n 0, 1) := by decide +kernel
theorem d_22_2 : decode prog_10_method_5_code 2 = .ok (.getfield 25, 3) := by decide +kernel
theorem d_22_5 : decode prog_10_method_5_code 5 = .ok (.if_icmp .ge 12, 3) := by decide +kernel
theorem d_22_8 : decode prog_10_method_5_code 8 = .ok (.aload_n 0, 1) := by decide +kernel
theorem d_22_9 : decode prog_10_method_5_code 9 = .ok (.getfield 18, 3) := by decide +kernel
theorem d_22_12 : decode prog_10_method_5_code 12 = .ok (.iload_n 1, 1) := by decide +kernel
theorem d_22_13 : decode prog_10_method_5_code 13 = .ok (.iaload, 1) := by decide +kernel
theorem d_22_14 : decode prog_10_method_5_code 14 = .ok (.goto 7, 3) := by decide +kernel
theorem d_22_17 : decode prog_10_method_5_code 17 = .ok (.aload_n 0, 1) := by decide +kernel
theorem d_22_18 : decode prog_10_method_5_code 18 = .ok (.getfield 28, 3) := by decide +kernel
theorem d_22_21 : decode prog_10_method_5_code 21 = .ok (.ireturn, 1) := by decide +kernel
theorem d_71_0 : decode prog_5_method_4_code 0 = .ok (.aload_n 0, 1) := by decide +kernel
theorem d_71_1 : decode prog_5_method_4_code 1 = .ok (.getfield 19, 3) := by decide +kernel
theorem d_71_4 : decode prog_5_method_4_code 4 = .ok (.iload_n 1, 1) := by decide +kernel
theorem d_71_5 : decode prog_5_method_4_code 5 = .ok (.lushr, 1) := by decide +kernel
theorem d_71_6 : decode prog_5_method_4_code 6 = .ok (.lconst 1, 1) := by decide +kernel
theorem d_71_7 : decode prog_5_method_4_code 7 = .ok (.land, 1) := by decide +kernel
theorem d_71_8 : decode prog_5_method_4_code 8 = .ok (.lconst 0, 1) := by decide +kernel
theorem d_71_9 : decode prog_5_method_4_code 9 = .ok (.lcmp, 1) := by decide +kernel
theorem d_71_10 : decode prog_5_method_4_code 10 = .ok (.ifCond .eq 7, 3) := by decide +kernel
theorem d_71_13 : decode prog_5_method_4_code 13 = .ok (.iconst 1, 1) := by decide +kernel
theorem d_71_14 : decode prog_5_method_4_code 14 = .ok (.goto 4, 3) := by decide +kernel
theorem d_71_17 : decode prog_5_method_4_code 17 = .ok (.iconst 0, 1) := by decide +kernel
theorem d_71_18 : decode prog_5_method_4_code 18 = .ok (.ireturn, 1) := by decide +kernel
theorem d_75_0 : decode prog_5_method_3_code 0 = .ok (.aload_n 0, 1) := by decide +kernel
theorem d_75_1 : decode prog_5_method_3_code 1 = .ok (.getfield 15, 3) := by decide +kernel
theorem d_75_4 : decode prog_5_method_3_code 4 = .ok (.iload_n 1, 1) := by decide +kernel
theorem d_75_5 : decode prog_5_method_3_code 5 = .ok (.bipush 10, 2) := by decide +kernel
theorem d_75_7 : decode prog_5_method_3_code 7 = .ok (.imul, 1) := by decide +kernel
theorem d_75_8 : decode prog_5_method_3_code 8 = .ok (.iload_n 2, 1) := by decide +kernel
theorem d_75_9 : decode prog_5_method_3_code 9 = .ok (.iadd, 1) := by decide +kernel
theorem d_75_10 : decode prog_5_method_3_code 10 = .ok (.iaload, 1) := by decide +kernel
theorem d_75_11 : decode prog_5_method_3_code 11 = .ok (.ireturn, 1) := by decide +kernel
theorem d_87_0 : decode prog_5_method_11_code 0 = .ok (.aload_n 0, 1) := by decide +kernel
theorem d_87_1 : decode prog_5_method_11_code 1 = .ok (.aload_n 0, 1) := by decide +kernel
theorem d_87_2 : decode prog_5_method_11_code 2 = .ok (.getfield 19, 3) := by decide +kernel
theorem d_87_5 : decode prog_5_method_11_code 5 = .ok (.ldc2_w 39, 3) := by decide +kernel
theorem d_87_8 : decode prog_5_method_11_code 8 = .ok (.lxor, 1) := by decide +kernel
theorem d_87_9 : decode prog_5_method_11_code 9 = .ok (.lconst 1, 1) := by decide +kernel
theorem d_87_10 : decode prog_5_method_11_code 10 = .ok (.aload_n 0, 1) := by decide +kernel
theorem d_87_11 : decode prog_5_method_11_code 11 = .ok (.getfield 9, 3) := by decide +kernel
theorem d_87_14 : decode prog_5_method_11_code 14 = .ok (.lshl, 1) := by decide +kernel
theorem d_87_15 : decode prog_5_method_11_code 15 = .ok (.lconst 1, 1) := by decide +kernel
theorem d_87_16 : decode prog_5_method_11_code 16 = .ok (.lsub, 1) := by decide +kernel
theorem d_87_17 : decode prog_5_method_11_code 17 = .ok (.land, 1) := by decide +kernel
theorem d_87_18 : decode prog_5_method_11_code 18 = .ok (.putfield 19, 3) := by decide +kernel
theorem d_87_21 : decode prog_5_method_11_code 21 = .ok (.return_, 1) := by decide +kernel
theorem d_88_0 : decode prog_5_method_6_code 0 = .ok (.aload_n 0, 1) := by decide +kernel
theorem d_88_1 : decode prog_5_method_6_code 1 = .ok (.aload_n 1, 1) := by decide +kernel
theorem d_88_2 : decode prog_5_method_6_code 2 = .ok (.getfield 9, 3) := by decide +kernel
theorem d_88_5 : decode prog_5_method_6_code 5 = .ok (.putfield 9, 3) := by decide +kernel
theorem d_88_8 : decode prog_5_method_6_code 8 = .ok (.aload_n 0, 1) := by decide +kernel
theorem d_88_9 : decode prog_5_method_6_code 9 = .ok (.aload_n 1, 1) := by decide +kernel
theorem d_88_10 : decode prog_5_method_6_code 10 = .ok (.getfield 19, 3) := by decide +kernel
theorem d_88_13 : decode prog_5_method_6_code 13 = .ok (.putfield 19, 3) := by decide +kernel
theorem d_88_16 : decode prog_5_method_6_code 16 = .ok (.aload_n 1, 1) := by decide +kernel
theorem d_88_17 : decode prog_5_method_6_code 17 = .ok (.getfield 15, 3) := by decide +kernel
theorem d_88_20 : decode prog_5_method_6_code 20 = .ok (.iconst 0, 1) := by decide +kernel
theorem d_88_21 : decode prog_5_method_6_code 21 = .ok (.aload_n 0, 1) := by decide +kernel
theorem d_88_22 : decode prog_5_method_6_code 22 = .ok (.getfield 15, 3) := by decide +kernel
theorem d_88_25 : decode prog_5_method_6_code 25 = .ok (.iconst 0, 1) := by decide +kernel
theorem d_88_26 : decode prog_5_method_6_code 26 = .ok (.aload_n 0, 1) := by decide +kernel
theorem d_88_27 : decode prog_5_method_6_code 27 = .ok (.getfield 9, 3) := by decide +kernel
theorem d_88_30 : decode prog_5_method_6_code 30 = .ok (.bipush 10, 2) := by decide +kernel
theorem d_88_32 : decode prog_5_method_6_code 32 = .ok (.imul, 1) := by decide +kernel
theorem d_88_33 : decode prog_5_method_6_code 33 = .ok (.invokestatic 23, 3) := by decide +kernel
theorem d_88_36 : decode prog_5_method_6_code 36 = .ok (.return_, 1) := by decide +kernel
theorem d_94_0 : decode prog_5_method_9_code 0 = .ok (.aload_n 0, 1) := by decide +kernel
theorem d_94_1 : decode prog_5_method_9_code 1 = .ok (.iconst 3, 1) := by decide +kernel
theorem d_94_2 : decode prog_5_method_9_code 2 = .ok (.putfield 9, 3) := by decide +kernel
theorem d_94_5 : decode prog_5_method_9_code 5 = .ok (.aload_n 0, 1) := by decide +kernel
theorem d_94_6 : decode prog_5_method_9_code 6 = .ok (.ldc2_w 33, 3) := by decide +kernel
theorem d_94_9 : decode prog_5_method_9_code 9 = .ok (.putfield 19, 3) := by decide +kernel
theorem d_94_12 : decode prog_5_method_9_code 12 = .ok (.aload_n 0, 1) := by decide +kernel
theorem d_94_13 : decode prog_5_method_9_code 13 = .ok (.iconst 0, 1) := by decide +kernel
theorem d_94_14 : decode prog_5_method_9_code 14 = .ok (.iconst 1, 1) := by decide +kernel
theorem d_94_15 : decode prog_5_method_9_code 15 = .ok (.invokevirtual 29, 3) := by decide +kernel
theorem d_94_18 : decode prog_5_method_9_code 18 = .ok (.aload_n 0, 1) := by decide +kernel
theorem d_94_19 : decode prog_5_method_9_code 19 = .ok (.iconst 1, 1) := by decide +kernel
theorem d_94_20 : decode prog_5_method_9_code 20 = .ok (.iconst 2, 1) := by decide +kernel
theorem d_94_21 : decode prog_5_method_9_code 21 = .ok (.invokevirtual 29, 3) := by decide +kernel
theorem d_94_24 : decode prog_5_method_9_code 24 = .ok (.aload_n 0, 1) := by decide +kernel
theorem d_94_25 : decode prog_5_method_9_code 25 = .ok (.iconst 2, 1) := by decide +kernel
theorem d_94_26 : decode prog_5_method_9_code 26 = .ok (.iconst 2, 1) := by decide +kernel
theorem d_94_27 : decode prog_5_method_9_code 27 = .ok (.invokevirtual 29, 3) := by decide +kernel
theorem d_94_30 : decode prog_5_method_9_code 30 = .ok (.return_, 1) := by decide +kernel
theorem d_95_0 : decode prog_5_method_7_code 0 = .ok (.aload_n 0, 1) := by decide +kernel
theorem d_95_1 : decode prog_5_method_7_code 1 = .ok (.iconst 1, 1) := by decide +kernel
theorem d_95_2 : decode prog_5_method_7_code 2 = .ok (.putfield 9, 3) := by decide +kernel
theorem d_95_5 : decode prog_5_method_7_code 5 = .ok (.aload_n 0, 1) := by decide +kernel
theorem d_95_6 : decode prog_5_method_7_code 6 = .ok (.lconst 0, 1) := by decide +kernel
theorem d_95_7 : decode prog_5_method_7_code 7 = .ok (.putfield 19, 3) := by decide +kernel
theorem d_95_10 : decode prog_5_method_7_code 10 = .ok (.aload_n 0, 1) := by decide +kernel
theorem d_95_11 : decode prog_5_method_7_code 11 = .ok (.iconst 0, 1) := by decide +kernel
theorem d_95_12 : decode prog_5_method_7_code 12 = .ok (.iconst 0, 1) := by decide +kernel
theorem d_95_13 : decode prog_5_method_7_code 13 = .ok (.invokevirtual 29, 3) := by decide +kernel
theorem d_95_16 : decode prog_5_method_7_code 16 = .ok (.return_, 1) := by decide +kernel
theorem d_96_0 : decode prog_5_method_10_code 0 = .ok (.iload_n 1, 1) := by decide +kernel
theorem d_96_1 : decode prog_5_method_10_code 1 = .ok (.ifCond .ne 7, 3) := by decide +kernel
theorem d_96_4 : decode prog_5_method_10_code 4 = .ok (.iconst 1, 1) := by decide +kernel
theorem d_96_5 : decode prog_5_method_10_code 5 = .ok (.goto 4, 3) := by decide +kernel
theorem d_96_8 : decode prog_5_method_10_code 8 = .ok (.iconst 2, 1) := by decide +kernel
theorem d_96_9 : decode prog_5_method_10_code 9 = .ok (.istore_n 2, 1) := by decide +kernel
theorem d_96_10 : decode prog_5_method_10_code 10 = .ok (.iconst 3, 1) := by decide +kernel
theorem d_96_11 : decode prog_5_method_10_code 11 = .ok (.iload_n 2, 1) := by decide +kernel
theorem d_96_12 : decode prog_5_method_10_code 12 = .ok (.isub, 1) := by decide +kernel
theorem d_96_13 : decode prog_5_method_10_code 13 = .ok (.istore_n 3, 1) := by decide +kernel
theorem d_96_14 : decode prog_5_method_10_code 14 = .ok (.aload_n 0, 1) := by decide +kernel
theorem d_96_15 : decode prog_5_method_10_code 15 = .ok (.iconst 3, 1) := by decide +kernel
theorem d_96_16 : decode prog_5_method_10_code 16 = .ok (.putfield 9, 3) := by decide +kernel
theorem d_96_19 : decode prog_5_method_10_code 19 = .ok (.aload_n 0, 1) := by decide +kernel
theorem d_96_20 : decode prog_5_method_10_code 20 = .ok (.lconst 1, 1) := by decide +kernel
theorem d_96_21 : decode prog_5_method_10_code 21 = .ok (.iload_n 2, 1) := by decide +kernel
theorem d_96_22 : decode prog_5_method_10_code 22 = .ok (.lshl, 1) := by decide +kernel
theorem d_96_23 : decode prog_5_method_10_code 23 = .ok (.putfield 19, 3) := by decide +kernel
theorem d_96_26 : decode prog_5_method_10_code 26 = .ok (.aload_n 0, 1) := by decide +kernel
theorem d_96_27 : decode prog_5_method_10_code 27 = .ok (.iconst 0, 1) := by decide +kernel
theorem d_96_28 : decode prog_5_method_10_code 28 = .ok (.iload_n 3, 1) := by decide +kernel
theorem d_96_29 : decode prog_5_method_10_code 29 = .ok (.invokevirtual 29, 3) := by decide +kernel
theorem d_96_32 : decode prog_5_method_10_code 32 = .ok (.aload_n 0, 1) := by decide +kernel
theorem d_96_33 : decode prog_5_method_10_code 33 = .ok (.iconst 1, 1) := by decide +kernel
theorem d_96_34 : decode prog_5_method_10_code 34 = .ok (.iload_n 3, 1) := by decide +kernel
theorem d_96_35 : decode prog_5_method_10_code 35 = .ok (.invokevirtual 29, 3) := by decide +kernel
theorem d_96_38 : decode prog_5_method_10_code 38 = .ok (.aload_n 0, 1) := by decide +kernel
theorem d_96_39 : decode prog_5_method_10_code 39 = .ok (.iconst 2, 1) := by decide +kernel
theorem d_96_40 : decode prog_5_method_10_code 40 = .ok (.iload_n 3, 1) := by decide +kernel
theorem d_96_41 : decode prog_5_method_10_code 41 = .ok (.invokevirtual 29, 3) := by decide +kernel
theorem d_96_44 : decode prog_5_method_10_code 44 = .ok (.aload_n 0, 1) := by decide +kernel
theorem d_96_45 : decode prog_5_method_10_code 45 = .ok (.iconst 0, 1) := by decide +kernel
theorem d_96_46 : decode prog_5_method_10_code 46 = .ok (.iload_n 1, 1) := by decide +kernel
theorem d_96_47 : decode prog_5_method_10_code 47 = .ok (.iload_n 2, 1) := by decide +kernel
theorem d_96_48 : decode prog_5_method_10_code 48 = .ok (.invokevirtual 35, 3) := by decide +kernel
theorem d_96_51 : decode prog_5_method_10_code 51 = .ok (.return_, 1) := by decide +kernel
theorem d_128_0 : decode prog_5_method_2_code 0 = .ok (.iload_n 1, 1) := by decide +kernel
theorem d_128_1 : decode prog_5_method_2_code 1 = .ok (.ifCond .lt 15, 3) := by decide +kernel
theorem d_128_4 : decode prog_5_method_2_code 4 = .ok (.iload_n 1, 1) := by decide +kernel
theorem d_128_5 : decode prog_5_method_2_code 5 = .ok (.aload_n 0, 1) := by decide +kernel
theorem d_128_6 : decode prog_5_method_2_code 6 = .ok (.getfield 9, 3) := by decide +kernel
theorem d_128_9 : decode prog_5_method_2_code 9 = .ok (.if_icmp .ge 7, 3) := by decide +kernel
theorem d_128_12 : decode prog_5_method_2_code 12 = .ok (.iconst 1, 1) := by decide +kernel
theorem d_128_13 : decode prog_5_method_2_code 13 = .ok (.goto 4, 3) := by decide +kernel
theorem d_128_16 : decode prog_5_method_2_code 16 = .ok (.iconst 0, 1) := by decide +kernel
theorem d_128_17 : decode prog_5_method_2_code 17 = .ok (.ireturn, 1) := by decide +kernel
