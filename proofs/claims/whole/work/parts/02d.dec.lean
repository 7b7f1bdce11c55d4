theorem dX6_weightOf_17 : decode cX6_weightOf 17 = .ok (.ishr, 1) := by decide +kernel
theorem dX6_weightOf_18 : decode cX6_weightOf 18 = .ok (.iconst 1, 1) := by decide +kernel
theorem dX6_weightOf_19 : decode cX6_weightOf 19 = .ok (.iand, 1) := by decide +kernel
theorem dX6_weightOf_20 : decode cX6_weightOf 20 = .ok (.ifCond .ne 26, 3) := by decide +kernel
theorem dX6_weightOf_23 : decode cX6_weightOf 23 = .ok (.aload_n 0, 1) := by decide +kernel
theorem dX6_weightOf_24 : decode cX6_weightOf 24 = .ok (.getfield 46, 3) := by decide +kernel
theorem dX6_weightOf_27 : decode cX6_weightOf 27 = .ok (.iload_n 3, 1) := by decide +kernel
theorem dX6_weightOf_28 : decode cX6_weightOf 28 = .ok (.baload, 1) := by decide +kernel
theorem dX6_weightOf_29 : decode cX6_weightOf 29 = .ok (.aload_n 0, 1) := by decide +kernel
theorem dX6_weightOf_30 : decode cX6_weightOf 30 = .ok (.getfield 46, 3) := by decide +kernel
theorem dX6_weightOf_33 : decode cX6_weightOf 33 = .ok (.iload_n 3, 1) := by decide +kernel
theorem dX6_weightOf_34 : decode cX6_weightOf 34 = .ok (.iconst 1, 1) := by decide +kernel
theorem dX6_weightOf_35 : decode cX6_weightOf 35 = .ok (.iload_n 1, 1) := by decide +kernel
theorem dX6_weightOf_36 : decode cX6_weightOf 36 = .ok (.ishl, 1) := by decide +kernel
theorem dX6_weightOf_37 : decode cX6_weightOf 37 = .ok (.ior, 1) := by decide +kernel
theorem dX6_weightOf_38 : decode cX6_weightOf 38 = .ok (.baload, 1) := by decide +kernel
theorem dX6_weightOf_39 : decode cX6_weightOf 39 = .ok (.if_icmp .eq 7, 3) := by decide +kernel
theorem dX6_weightOf_42 : decode cX6_weightOf 42 = .ok (.iconst 1, 1) := by decide +kernel
theorem dX6_weightOf_43 : decode cX6_weightOf 43 = .ok (.goto 4, 3) := by decide +kernel
theorem dX6_weightOf_46 : decode cX6_weightOf 46 = .ok (.iconst 0, 1) := by decide +kernel
theorem dX6_weightOf_47 : decode cX6_weightOf 47 = .ok (.iadd, 1) := by decide +kernel
theorem dX6_weightOf_48 : decode cX6_weightOf 48 = .ok (.istore_n 2, 1) := by decide +kernel
theorem dX6_weightOf_49 : decode cX6_weightOf 49 = .ok (.iinc 3 1, 3) := by decide +kernel
theorem dX6_weightOf_52 : decode cX6_weightOf 52 = .ok (.goto (-48), 3) := by decide +kernel
theorem dX6_weightOf_55 : decode cX6_weightOf 55 = .ok (.iload_n 2, 1) := by decide +kernel
theorem dX6_weightOf_56 : decode cX6_weightOf 56 = .ok (.ireturn, 1) := by decide +kernel
theorem dX6_weight_0 : decode cX6_weight 0 = .ok (.aload_n 0, 1) := by decide +kernel
theorem dX6_weight_1 : decode cX6_weight 1 = .ok (.iload_n 1, 1) := by decide +kernel
theorem dX6_weight_2 : decode cX6_weight 2 = .ok (.invokevirtual 122, 3) := by decide +kernel
theorem dX6_weight_5 : decode cX6_weight 5 = .ok (.ifCond .eq 14, 3) := by decide +kernel
theorem dX6_weight_8 : decode cX6_weight 8 = .ok (.aload_n 0, 1) := by decide +kernel
theorem dX6_weight_9 : decode cX6_weight 9 = .ok (.invokevirtual 126, 3) := by decide +kernel
theorem dX6_weight_12 : decode cX6_weight 12 = .ok (.iload_n 1, 1) := by decide +kernel
theorem dX6_weight_13 : decode cX6_weight 13 = .ok (.invokestatic 85, 3) := by decide +kernel
theorem dX6_weight_16 : decode cX6_weight 16 = .ok (.ifCond .ne 6, 3) := by decide +kernel
theorem dX6_weight_19 : decode cX6_weight 19 = .ok (.bipush (-11), 2) := by decide +kernel
theorem dX6_weight_21 : decode cX6_weight 21 = .ok (.ireturn, 1) := by decide +kernel
theorem dX6_weight_22 : decode cX6_weight 22 = .ok (.aload_n 0, 1) := by decide +kernel
theorem dX6_weight_23 : decode cX6_weight 23 = .ok (.invokevirtual 184, 3) := by decide +kernel
theorem dX6_weight_26 : decode cX6_weight 26 = .ok (.ifCond .ne 6, 3) := by decide +kernel
theorem dX6_weight_29 : decode cX6_weight 29 = .ok (.bipush (-13), 2) := by decide +kernel
theorem dX6_weight_31 : decode cX6_weight 31 = .ok (.ireturn, 1) := by decide +kernel
theorem dX6_weight_32 : decode cX6_weight 32 = .ok (.iconst 0, 1) := by decide +kernel
theorem dX6_weight_33 : decode cX6_weight 33 = .ok (.istore_n 2, 1) := by decide +kernel
theorem dX6_weight_34 : decode cX6_weight 34 = .ok (.aload_n 0, 1) := by decide +kernel
theorem dX6_weight_35 : decode cX6_weight 35 = .ok (.getfield 43, 3) := by decide +kernel
theorem dX6_weight_38 : decode cX6_weight 38 = .ok (.iload_n 2, 1) := by decide +kernel
theorem dX6_weight_39 : decode cX6_weight 39 = .ok (.iaload, 1) := by decide +kernel
theorem dX6_weight_40 : decode cX6_weight 40 = .ok (.iload_n 1, 1) := by decide +kernel
theorem dX6_weight_41 : decode cX6_weight 41 = .ok (.if_icmp .eq 9, 3) := by decide +kernel
theorem dX6_weight_44 : decode cX6_weight 44 = .ok (.iinc 2 1, 3) := by decide +kernel
theorem dX6_weight_47 : decode cX6_weight 47 = .ok (.goto (-13), 3) := by decide +kernel
theorem dX6_weight_50 : decode cX6_weight 50 = .ok (.aload_n 0, 1) := by decide +kernel
theorem dX6_weight_51 : decode cX6_weight 51 = .ok (.iload_n 2, 1) := by decide +kernel
theorem dX6_weight_52 : decode cX6_weight 52 = .ok (.invokevirtual 188, 3) := by decide +kernel
theorem dX6_weight_55 : decode cX6_weight 55 = .ok (.ireturn, 1) := by decide +kernel
theorem dX6_dead_0 : decode cX6_dead 0 = .ok (.aload_n 0, 1) := by decide +kernel
theorem dX6_dead_1 : decode cX6_dead 1 = .ok (.invokevirtual 184, 3) := by decide +kernel
theorem dX6_dead_4 : decode cX6_dead 4 = .ok (.ifCond .ne 7, 3) := by decide +kernel
theorem dX6_dead_7 : decode cX6_dead 7 = .ok (.ldc2_w 191, 3) := by decide +kernel
theorem dX6_dead_10 : decode cX6_dead 10 = .ok (.lreturn, 1) := by decide +kernel
theorem dX6_dead_11 : decode cX6_dead 11 = .ok (.lconst 0, 1) := by decide +kernel
theorem dX6_dead_12 : decode cX6_dead 12 = .ok (.lstore_n 1, 1) := by decide +kernel
theorem dX6_dead_13 : decode cX6_dead 13 = .ok (.iconst 0, 1) := by decide +kernel
theorem dX6_dead_14 : decode cX6_dead 14 = .ok (.istore_n 3, 1) := by decide +kernel
theorem dX6_dead_15 : decode cX6_dead 15 = .ok (.iload_n 3, 1) := by decide +kernel
theorem dX6_dead_16 : decode cX6_dead 16 = .ok (.aload_n 0, 1) := by decide +kernel
theorem dX6_dead_17 : decode cX6_dead 17 = .ok (.getfield 177, 3) := by decide +kernel
theorem dX6_dead_20 : decode cX6_dead 20 = .ok (.if_icmp .ge 32, 3) := by decide +kernel
theorem dX6_dead_23 : decode cX6_dead 23 = .ok (.lload_n 1, 1) := by decide +kernel
theorem dX6_dead_24 : decode cX6_dead 24 = .ok (.aload_n 0, 1) := by decide +kernel
theorem dX6_dead_25 : decode cX6_dead 25 = .ok (.iload_n 3, 1) := by decide +kernel
theorem dX6_dead_26 : decode cX6_dead 26 = .ok (.invokevirtual 188, 3) := by decide +kernel
theorem dX6_dead_29 : decode cX6_dead 29 = .ok (.ifCond .ne 14, 3) := by decide +kernel
theorem dX6_dead_32 : decode cX6_dead 32 = .ok (.lconst 1, 1) := by decide +kernel
theorem dX6_dead_33 : decode cX6_dead 33 = .ok (.aload_n 0, 1) := by decide +kernel
theorem dX6_dead_34 : decode cX6_dead 34 = .ok (.getfield 43, 3) := by decide +kernel
theorem dX6_dead_37 : decode cX6_dead 37 = .ok (.iload_n 3, 1) := by decide +kernel
theorem dX6_dead_38 : decode cX6_dead 38 = .ok (.iaload, 1) := by decide +kernel
theorem dX6_dead_39 : decode cX6_dead 39 = .ok (.lshl, 1) := by decide +kernel
theorem dX6_dead_40 : decode cX6_dead 40 = .ok (.goto 4, 3) := by decide +kernel
theorem dX6_dead_43 : decode cX6_dead 43 = .ok (.lconst 0, 1) := by decide +kernel
theorem dX6_dead_44 : decode cX6_dead 44 = .ok (.lor, 1) := by decide +kernel
theorem dX6_dead_45 : decode cX6_dead 45 = .ok (.lstore_n 1, 1) := by decide +kernel
theorem dX6_dead_46 : decode cX6_dead 46 = .ok (.iinc 3 1, 3) := by decide +kernel
theorem dX6_dead_49 : decode cX6_dead 49 = .ok (.goto (-34), 3) := by decide +kernel
theorem dX6_dead_52 : decode cX6_dead 52 = .ok (.lload_n 1, 1) := by decide +kernel
theorem dX6_dead_53 : decode cX6_dead 53 = .ok (.lreturn, 1) := by decide +kernel
theorem dX6_powers_0 : decode cX6_powers 0 = .ok (.aload_n 0, 1) := by decide +kernel
theorem dX6_powers_1 : decode cX6_powers 1 = .ok (.getfield 55, 3) := by decide +kernel
theorem dX6_powers_4 : decode cX6_powers 4 = .ok (.iconst 0, 1) := by decide +kernel
theorem dX6_powers_5 : decode cX6_powers 5 = .ok (.iconst 1, 1) := by decide +kernel
theorem dX6_powers_6 : decode cX6_powers 6 = .ok (.iastore, 1) := by decide +kernel
theorem dX6_powers_7 : decode cX6_powers 7 = .ok (.iconst 1, 1) := by decide +kernel
theorem dX6_powers_8 : decode cX6_powers 8 = .ok (.istore_n 1, 1) := by decide +kernel
theorem dX6_powers_9 : decode cX6_powers 9 = .ok (.iload_n 1, 1) := by decide +kernel
theorem dX6_powers_10 : decode cX6_powers 10 = .ok (.bipush 10, 2) := by decide +kernel
theorem dX6_powers_12 : decode cX6_powers 12 = .ok (.if_icmp .ge 25, 3) := by decide +kernel
theorem dX6_powers_15 : decode cX6_powers 15 = .ok (.aload_n 0, 1) := by decide +kernel
theorem dX6_powers_16 : decode cX6_powers 16 = .ok (.getfield 55, 3) := by decide +kernel
theorem dX6_powers_19 : decode cX6_powers 19 = .ok (.iload_n 1, 1) := by decide +kernel
theorem dX6_powers_20 : decode cX6_powers 20 = .ok (.iconst 3, 1) := by decide +kernel
theorem dX6_powers_21 : decode cX6_powers 21 = .ok (.aload_n 0, 1) := by decide +kernel
theorem dX6_powers_22 : decode cX6_powers 22 = .ok (.getfield 55, 3) := by decide +kernel
theorem dX6_powers_25 : decode cX6_powers 25 = .ok (.iload_n 1, 1) := by decide +kernel
theorem dX6_powers_26 : decode cX6_powers 26 = .ok (.iconst 1, 1) := by decide +kernel
theorem dX6_powers_27 : decode cX6_powers 27 = .ok (.isub, 1) := by decide +kernel
theorem dX6_powers_28 : decode cX6_powers 28 = .ok (.iaload, 1) := by decide +kernel
theorem dX6_powers_29 : decode cX6_powers 29 = .ok (.imul, 1) := by decide +kernel
theorem dX6_powers_30 : decode cX6_powers 30 = .ok (.iastore, 1) := by decide +kernel
theorem dX6_powers_31 : decode cX6_powers 31 = .ok (.iinc 1 1, 3) := by decide +kernel
theorem dX6_powers_34 : decode cX6_powers 34 = .ok (.goto (-25), 3) := by decide +kernel
theorem dX6_powers_37 : decode cX6_powers 37 = .ok (.return_, 1) := by decide +kernel
theorem dX6_digit_0 : decode cX6_digit 0 = .ok (.iload_n 1, 1) := by decide +kernel
theorem dX6_digit_1 : decode cX6_digit 1 = .ok (.aload_n 0, 1) := by decide +kernel
theorem dX6_digit_2 : decode cX6_digit 2 = .ok (.getfield 55, 3) := by decide +kernel
theorem dX6_digit_5 : decode cX6_digit 5 = .ok (.iload_n 2, 1) := by decide +kernel
theorem dX6_digit_6 : decode cX6_digit 6 = .ok (.iaload, 1) := by decide +kernel
theorem dX6_digit_7 : decode cX6_digit 7 = .ok (.idiv, 1) := by decide +kernel
theorem dX6_digit_8 : decode cX6_digit 8 = .ok (.iconst 3, 1) := by decide +kernel
theorem dX6_digit_9 : decode cX6_digit 9 = .ok (.irem, 1) := by decide +kernel
theorem dX6_digit_10 : decode cX6_digit 10 = .ok (.ireturn, 1) := by decide +kernel
theorem dX6_laid_0 : decode cX6_laid 0 = .ok (.aload_n 0, 1) := by decide +kernel
theorem dX6_laid_1 : decode cX6_laid 1 = .ok (.iload_n 2, 1) := by decide +kernel
theorem dX6_laid_2 : decode cX6_laid 2 = .ok (.invokevirtual 139, 3) := by decide +kernel
theorem dX6_laid_5 : decode cX6_laid 5 = .ok (.lstore_n 3, 1) := by decide +kernel
theorem dX6_laid_6 : decode cX6_laid 6 = .ok (.iconst 0, 1) := by decide +kernel
theorem dX6_laid_7 : decode cX6_laid 7 = .ok (.istore 5, 2) := by decide +kernel
theorem dX6_laid_9 : decode cX6_laid 9 = .ok (.iload 5, 2) := by decide +kernel
theorem dX6_laid_11 : decode cX6_laid 11 = .ok (.aload_n 0, 1) := by decide +kernel
theorem dX6_laid_12 : decode cX6_laid 12 = .ok (.getfield 177, 3) := by decide +kernel
theorem dX6_laid_15 : decode cX6_laid 15 = .ok (.if_icmp .ge 38, 3) := by decide +kernel
theorem dX6_laid_18 : decode cX6_laid 18 = .ok (.lload_n 3, 1) := by decide +kernel
theorem dX6_laid_19 : decode cX6_laid 19 = .ok (.aload_n 0, 1) := by decide +kernel
theorem dX6_laid_20 : decode cX6_laid 20 = .ok (.iload_n 1, 1) := by decide +kernel
theorem dX6_laid_21 : decode cX6_laid 21 = .ok (.iload 5, 2) := by decide +kernel
theorem dX6_laid_23 : decode cX6_laid 23 = .ok (.invokevirtual 193, 3) := by decide +kernel
theorem dX6_laid_26 : decode cX6_laid 26 = .ok (.iload_n 2, 1) := by decide +kernel
theorem dX6_laid_27 : decode cX6_laid 27 = .ok (.iconst 1, 1) := by decide +kernel
theorem dX6_laid_28 : decode cX6_laid 28 = .ok (.iadd, 1) := by decide +kernel
theorem dX6_laid_29 : decode cX6_laid 29 = .ok (.if_icmp .ne 15, 3) := by decide +kernel
theorem dX6_laid_32 : decode cX6_laid 32 = .ok (.lconst 1, 1) := by decide +kernel
theorem dX6_laid_33 : decode cX6_laid 33 = .ok (.aload_n 0, 1) := by decide +kernel
theorem dX6_laid_34 : decode cX6_laid 34 = .ok (.getfield 43, 3) := by decide +kernel
theorem dX6_laid_37 : decode cX6_laid 37 = .ok (.iload 5, 2) := by decide +kernel
theorem dX6_laid_39 : decode cX6_laid 39 = .ok (.iaload, 1) := by decide +kernel
theorem dX6_laid_40 : decode cX6_laid 40 = .ok (.lshl, 1) := by decide +kernel
theorem dX6_laid_41 : decode cX6_laid 41 = .ok (.goto 4, 3) := by decide +kernel
theorem dX6_laid_44 : decode cX6_laid 44 = .ok (.lconst 0, 1) := by decide +kernel
theorem dX6_laid_45 : decode cX6_laid 45 = .ok (.lor, 1) := by decide +kernel
theorem dX6_laid_46 : decode cX6_laid 46 = .ok (.lstore_n 3, 1) := by decide +kernel
theorem dX6_laid_47 : decode cX6_laid 47 = .ok (.iinc 5 1, 3) := by decide +kernel
theorem dX6_laid_50 : decode cX6_laid 50 = .ok (.goto (-41), 3) := by decide +kernel
theorem dX6_laid_53 : decode cX6_laid 53 = .ok (.lload_n 3, 1) := by decide +kernel
theorem dX6_laid_54 : decode cX6_laid 54 = .ok (.lreturn, 1) := by decide +kernel
theorem dX6_laidMany_0 : decode cX6_laidMany 0 = .ok (.iconst 0, 1) := by decide +kernel
theorem dX6_laidMany_1 : decode cX6_laidMany 1 = .ok (.istore_n 2, 1) := by decide +kernel
theorem dX6_laidMany_2 : decode cX6_laidMany 2 = .ok (.iconst 0, 1) := by decide +kernel
theorem dX6_laidMany_3 : decode cX6_laidMany 3 = .ok (.istore_n 3, 1) := by decide +kernel
theorem dX6_laidMany_4 : decode cX6_laidMany 4 = .ok (.iload_n 3, 1) := by decide +kernel
theorem dX6_laidMany_5 : decode cX6_laidMany 5 = .ok (.aload_n 0, 1) := by decide +kernel
theorem dX6_laidMany_6 : decode cX6_laidMany 6 = .ok (.getfield 177, 3) := by decide +kernel
theorem dX6_laidMany_9 : decode cX6_laidMany 9 = .ok (.if_icmp .ge 26, 3) := by decide +kernel
theorem dX6_laidMany_12 : decode cX6_laidMany 12 = .ok (.iload_n 2, 1) := by decide +kernel
theorem dX6_laidMany_13 : decode cX6_laidMany 13 = .ok (.aload_n 0, 1) := by decide +kernel
theorem dX6_laidMany_14 : decode cX6_laidMany 14 = .ok (.iload_n 1, 1) := by decide +kernel
theorem dX6_laidMany_15 : decode cX6_laidMany 15 = .ok (.iload_n 3, 1) := by decide +kernel
theorem dX6_laidMany_16 : decode cX6_laidMany 16 = .ok (.invokevirtual 193, 3) := by decide +kernel
theorem dX6_laidMany_19 : decode cX6_laidMany 19 = .ok (.ifCond .le 7, 3) := by decide +kernel
theorem dX6_laidMany_22 : decode cX6_laidMany 22 = .ok (.iconst 1, 1) := by decide +kernel
theorem dX6_laidMany_23 : decode cX6_laidMany 23 = .ok (.goto 4, 3) := by decide +kernel
theorem dX6_laidMany_26 : decode cX6_laidMany 26 = .ok (.iconst 0, 1) := by decide +kernel
theorem dX6_laidMany_27 : decode cX6_laidMany 27 = .ok (.iadd, 1) := by decide +kernel
theorem dX6_laidMany_28 : decode cX6_laidMany 28 = .ok (.istore_n 2, 1) := by decide +kernel
theorem dX6_laidMany_29 : decode cX6_laidMany 29 = .ok (.iinc 3 1, 3) := by decide +kernel
theorem dX6_laidMany_32 : decode cX6_laidMany 32 = .ok (.goto (-28), 3) := by decide +kernel
theorem dX6_laidMany_35 : decode cX6_laidMany 35 = .ok (.iload_n 2, 1) := by decide +kernel
theorem dX6_laidMany_36 : decode cX6_laidMany 36 = .ok (.ireturn, 1) := by decide +kernel
theorem dX6_decides_0 : decode cX6_decides 0 = .ok (.iconst (-1), 1) := by decide +kernel
theorem dX6_decides_1 : decode cX6_decides 1 = .ok (.istore_n 3, 1) := by decide +kernel
theorem dX6_decides_2 : decode cX6_decides 2 = .ok (.iconst (-1), 1) := by decide +kernel
theorem dX6_decides_3 : decode cX6_decides 3 = .ok (.istore 4, 2) := by decide +kernel
theorem dX6_decides_5 : decode cX6_decides 5 = .ok (.iconst 0, 1) := by decide +kernel
theorem dX6_decides_6 : decode cX6_decides 6 = .ok (.istore 5, 2) := by decide +kernel
theorem dX6_decides_8 : decode cX6_decides 8 = .ok (.iload 5, 2) := by decide +kernel
theorem dX6_decides_10 : decode cX6_decides 10 = .ok (.aload_n 0, 1) := by decide +kernel
theorem dX6_decides_11 : decode cX6_decides 11 = .ok (.getfield 177, 3) := by decide +kernel
theorem dX6_decides_14 : decode cX6_decides 14 = .ok (.if_icmp .ge 92, 3) := by decide +kernel
theorem dX6_decides_17 : decode cX6_decides 17 = .ok (.aload_n 0, 1) := by decide +kernel
theorem dX6_decides_18 : decode cX6_decides 18 = .ok (.iload_n 1, 1) := by decide +kernel
theorem dX6_decides_19 : decode cX6_decides 19 = .ok (.iload 5, 2) := by decide +kernel
theorem dX6_decides_21 : decode cX6_decides 21 = .ok (.invokevirtual 193, 3) := by decide +kernel
theorem dX6_decides_24 : decode cX6_decides 24 = .ok (.ifCond .ne 76, 3) := by decide +kernel
theorem dX6_decides_27 : decode cX6_decides 27 = .ok (.iload_n 1, 1) := by decide +kernel
theorem dX6_decides_28 : decode cX6_decides 28 = .ok (.iload_n 2, 1) := by decide +kernel
theorem dX6_decides_29 : decode cX6_decides 29 = .ok (.iconst 1, 1) := by decide +kernel
theorem dX6_decides_30 : decode cX6_decides 30 = .ok (.iadd, 1) := by decide +kernel
theorem dX6_decides_31 : decode cX6_decides 31 = .ok (.aload_n 0, 1) := by decide +kernel
theorem dX6_decides_32 : decode cX6_decides 32 = .ok (.getfield 55, 3) := by decide +kernel
theorem dX6_decides_35 : decode cX6_decides 35 = .ok (.iload 5, 2) := by decide +kernel
theorem dX6_decides_37 : decode cX6_decides 37 = .ok (.iaload, 1) := by decide +kernel
theorem dX6_decides_38 : decode cX6_decides 38 = .ok (.imul, 1) := by decide +kernel
theorem dX6_decides_39 : decode cX6_decides 39 = .ok (.iadd, 1) := by decide +kernel
theorem dX6_decides_40 : decode cX6_decides 40 = .ok (.istore 6, 2) := by decide +kernel
theorem dX6_decides_42 : decode cX6_decides 42 = .ok (.aload_n 0, 1) := by decide +kernel
theorem dX6_decides_43 : decode cX6_decides 43 = .ok (.getfield 52, 3) := by decide +kernel
theorem dX6_decides_46 : decode cX6_decides 46 = .ok (.iload 6, 2) := by decide +kernel
theorem dX6_decides_48 : decode cX6_decides 48 = .ok (.iaload, 1) := by decide +kernel
theorem dX6_decides_49 : decode cX6_decides 49 = .ok (.iconst 1, 1) := by decide +kernel
theorem dX6_decides_50 : decode cX6_decides 50 = .ok (.iadd, 1) := by decide +kernel
theorem dX6_decides_51 : decode cX6_decides 51 = .ok (.istore 7, 2) := by decide +kernel
theorem dX6_decides_53 : decode cX6_decides 53 = .ok (.aload_n 0, 1) := by decide +kernel
theorem dX6_decides_54 : decode cX6_decides 54 = .ok (.getfield 49, 3) := by decide +kernel
theorem dX6_decides_57 : decode cX6_decides 57 = .ok (.iload 6, 2) := by decide +kernel
theorem dX6_decides_59 : decode cX6_decides 59 = .ok (.iaload, 1) := by decide +kernel
theorem dX6_decides_60 : decode cX6_decides 60 = .ok (.iload_n 2, 1) := by decide +kernel
theorem dX6_decides_61 : decode cX6_decides 61 = .ok (.if_icmp .ne 23, 3) := by decide +kernel
theorem dX6_decides_64 : decode cX6_decides 64 = .ok (.iload_n 3, 1) := by decide +kernel
theorem dX6_decides_65 : decode cX6_decides 65 = .ok (.ifCond .lt 9, 3) := by decide +kernel
theorem dX6_decides_68 : decode cX6_decides 68 = .ok (.iload 7, 2) := by decide +kernel
theorem dX6_decides_70 : decode cX6_decides 70 = .ok (.iload_n 3, 1) := by decide +kernel
theorem dX6_decides_71 : decode cX6_decides 71 = .ok (.if_icmp .ge 8, 3) := by decide +kernel
theorem dX6_decides_74 : decode cX6_decides 74 = .ok (.iload 7, 2) := by decide +kernel
theorem dX6_decides_76 : decode cX6_decides 76 = .ok (.goto 4, 3) := by decide +kernel
theorem dX6_decides_79 : decode cX6_decides 79 = .ok (.iload_n 3, 1) := by decide +kernel
theorem dX6_decides_80 : decode cX6_decides 80 = .ok (.istore_n 3, 1) := by decide +kernel
theorem dX6_decides_81 : decode cX6_decides 81 = .ok (.goto 19, 3) := by decide +kernel
theorem dX6_decides_84 : decode cX6_decides 84 = .ok (.iload 7, 2) := by decide +kernel
theorem dX6_decides_86 : decode cX6_decides 86 = .ok (.iload 4, 2) := by decide +kernel
theorem dX6_decides_88 : decode cX6_decides 88 = .ok (.if_icmp .le 8, 3) := by decide +kernel
theorem dX6_decides_91 : decode cX6_decides 91 = .ok (.iload 7, 2) := by decide +kernel
theorem dX6_decides_93 : decode cX6_decides 93 = .ok (.goto 5, 3) := by decide +kernel
theorem dX6_decides_96 : decode cX6_decides 96 = .ok (.iload 4, 2) := by decide +kernel
theorem dX6_decides_98 : decode cX6_decides 98 = .ok (.istore 4, 2) := by decide +kernel
theorem dX6_decides_100 : decode cX6_decides 100 = .ok (.iinc 5 1, 3) := by decide +kernel
theorem dX6_decides_103 : decode cX6_decides 103 = .ok (.goto (-95), 3) := by decide +kernel
theorem dX6_decides_106 : decode cX6_decides 106 = .ok (.aload_n 0, 1) := by decide +kernel
theorem dX6_decides_107 : decode cX6_decides 107 = .ok (.getfield 49, 3) := by decide +kernel
theorem dX6_decides_110 : decode cX6_decides 110 = .ok (.iload_n 1, 1) := by decide +kernel
theorem dX6_decides_111 : decode cX6_decides 111 = .ok (.iload_n 3, 1) := by decide +kernel
theorem dX6_decides_112 : decode cX6_decides 112 = .ok (.ifCond .lt 7, 3) := by decide +kernel
theorem dX6_decides_115 : decode cX6_decides 115 = .ok (.iload_n 2, 1) := by decide +kernel
theorem dX6_decides_116 : decode cX6_decides 116 = .ok (.goto 6, 3) := by decide +kernel
theorem dX6_decides_119 : decode cX6_decides 119 = .ok (.iconst 1, 1) := by decide +kernel
theorem dX6_decides_120 : decode cX6_decides 120 = .ok (.iload_n 2, 1) := by decide +kernel
theorem dX6_decides_121 : decode cX6_decides 121 = .ok (.isub, 1) := by decide +kernel
theorem dX6_decides_122 : decode cX6_decides 122 = .ok (.iastore, 1) := by decide +kernel
theorem dX6_decides_123 : decode cX6_decides 123 = .ok (.aload_n 0, 1) := by decide +kernel
theorem dX6_decides_124 : decode cX6_decides 124 = .ok (.getfield 52, 3) := by decide +kernel
theorem dX6_decides_127 : decode cX6_decides 127 = .ok (.iload_n 1, 1) := by decide +kernel
theorem dX6_decides_128 : decode cX6_decides 128 = .ok (.iload_n 3, 1) := by decide +kernel
theorem dX6_decides_129 : decode cX6_decides 129 = .ok (.ifCond .lt 7, 3) := by decide +kernel
theorem dX6_decides_132 : decode cX6_decides 132 = .ok (.iload_n 3, 1) := by decide +kernel
theorem dX6_decides_133 : decode cX6_decides 133 = .ok (.goto 5, 3) := by decide +kernel
theorem dX6_decides_136 : decode cX6_decides 136 = .ok (.iload 4, 2) := by decide +kernel
theorem dX6_decides_138 : decode cX6_decides 138 = .ok (.iastore, 1) := by decide +kernel
theorem dX6_decides_139 : decode cX6_decides 139 = .ok (.return_, 1) := by decide +kernel
theorem dX6_solves_0 : decode cX6_solves 0 = .ok (.aload_n 0, 1) := by decide +kernel
theorem dX6_solves_1 : decode cX6_solves 1 = .ok (.aload_n 0, 1) := by decide +kernel
theorem dX6_solves_2 : decode cX6_solves 2 = .ok (.invokevirtual 126, 3) := by decide +kernel
theorem dX6_solves_5 : decode cX6_solves 5 = .ok (.invokevirtual 180, 3) := by decide +kernel
theorem dX6_solves_8 : decode cX6_solves 8 = .ok (.aload_n 0, 1) := by decide +kernel
theorem dX6_solves_9 : decode cX6_solves 9 = .ok (.getfield 177, 3) := by decide +kernel
theorem dX6_solves_12 : decode cX6_solves 12 = .ok (.bipush 9, 2) := by decide +kernel
theorem dX6_solves_14 : decode cX6_solves 14 = .ok (.if_icmp .le 5, 3) := by decide +kernel
theorem dX6_solves_17 : decode cX6_solves 17 = .ok (.iconst 0, 1) := by decide +kernel
theorem dX6_solves_18 : decode cX6_solves 18 = .ok (.ireturn, 1) := by decide +kernel
theorem dX6_solves_19 : decode cX6_solves 19 = .ok (.aload_n 0, 1) := by decide +kernel
theorem dX6_solves_20 : decode cX6_solves 20 = .ok (.invokevirtual 197, 3) := by decide +kernel
theorem dX6_solves_23 : decode cX6_solves 23 = .ok (.aload_n 0, 1) := by decide +kernel
theorem dX6_solves_24 : decode cX6_solves 24 = .ok (.getfield 55, 3) := by decide +kernel
theorem dX6_solves_27 : decode cX6_solves 27 = .ok (.aload_n 0, 1) := by decide +kernel
theorem dX6_solves_28 : decode cX6_solves 28 = .ok (.getfield 177, 3) := by decide +kernel
theorem dX6_solves_31 : decode cX6_solves 31 = .ok (.iaload, 1) := by decide +kernel
theorem dX6_solves_32 : decode cX6_solves 32 = .ok (.iconst 1, 1) := by decide +kernel
theorem dX6_solves_33 : decode cX6_solves 33 = .ok (.isub, 1) := by decide +kernel
theorem dX6_solves_34 : decode cX6_solves 34 = .ok (.istore_n 1, 1) := by decide +kernel
theorem dX6_solves_35 : decode cX6_solves 35 = .ok (.iload_n 1, 1) := by decide +kernel
theorem dX6_solves_36 : decode cX6_solves 36 = .ok (.ifCond .lt 85, 3) := by decide +kernel
theorem dX6_solves_39 : decode cX6_solves 39 = .ok (.aload_n 0, 1) := by decide +kernel
theorem dX6_solves_40 : decode cX6_solves 40 = .ok (.iconst 0, 1) := by decide +kernel
theorem dX6_solves_41 : decode cX6_solves 41 = .ok (.aload_n 0, 1) := by decide +kernel
theorem dX6_solves_42 : decode cX6_solves 42 = .ok (.iload_n 1, 1) := by decide +kernel
theorem dX6_solves_43 : decode cX6_solves 43 = .ok (.iconst 0, 1) := by decide +kernel
theorem dX6_solves_44 : decode cX6_solves 44 = .ok (.invokevirtual 200, 3) := by decide +kernel
theorem dX6_solves_47 : decode cX6_solves 47 = .ok (.invokevirtual 101, 3) := by decide +kernel
theorem dX6_solves_50 : decode cX6_solves 50 = .ok (.ifCond .eq 7, 3) := by decide +kernel
theorem dX6_solves_53 : decode cX6_solves 53 = .ok (.iconst 0, 1) := by decide +kernel
theorem dX6_solves_54 : decode cX6_solves 54 = .ok (.goto 22, 3) := by decide +kernel
theorem dX6_solves_57 : decode cX6_solves 57 = .ok (.aload_n 0, 1) := by decide +kernel
theorem dX6_solves_58 : decode cX6_solves 58 = .ok (.iconst 1, 1) := by decide +kernel
theorem dX6_solves_59 : decode cX6_solves 59 = .ok (.aload_n 0, 1) := by decide +kernel
theorem dX6_solves_60 : decode cX6_solves 60 = .ok (.iload_n 1, 1) := by decide +kernel
theorem dX6_solves_61 : decode cX6_solves 61 = .ok (.iconst 1, 1) := by decide +kernel
theorem dX6_solves_62 : decode cX6_solves 62 = .ok (.invokevirtual 200, 3) := by decide +kernel
theorem dX6_solves_65 : decode cX6_solves 65 = .ok (.invokevirtual 101, 3) := by decide +kernel
theorem dX6_solves_68 : decode cX6_solves 68 = .ok (.ifCond .eq 7, 3) := by decide +kernel
theorem dX6_solves_71 : decode cX6_solves 71 = .ok (.iconst 1, 1) := by decide +kernel
theorem dX6_solves_72 : decode cX6_solves 72 = .ok (.goto 4, 3) := by decide +kernel
theorem dX6_solves_75 : decode cX6_solves 75 = .ok (.iconst (-1), 1) := by decide +kernel
theorem dX6_solves_76 : decode cX6_solves 76 = .ok (.istore_n 2, 1) := by decide +kernel
theorem dX6_solves_77 : decode cX6_solves 77 = .ok (.iload_n 2, 1) := by decide +kernel
theorem dX6_solves_78 : decode cX6_solves 78 = .ok (.ifCond .lt 20, 3) := by decide +kernel
theorem dX6_solves_81 : decode cX6_solves 81 = .ok (.aload_n 0, 1) := by decide +kernel
theorem dX6_solves_82 : decode cX6_solves 82 = .ok (.getfield 49, 3) := by decide +kernel
theorem dX6_solves_85 : decode cX6_solves 85 = .ok (.iload_n 1, 1) := by decide +kernel
theorem dX6_solves_86 : decode cX6_solves 86 = .ok (.iload_n 2, 1) := by decide +kernel
theorem dX6_solves_87 : decode cX6_solves 87 = .ok (.iastore, 1) := by decide +kernel
theorem dX6_solves_88 : decode cX6_solves 88 = .ok (.aload_n 0, 1) := by decide +kernel
theorem dX6_solves_89 : decode cX6_solves 89 = .ok (.getfield 52, 3) := by decide +kernel
theorem dX6_solves_92 : decode cX6_solves 92 = .ok (.iload_n 1, 1) := by decide +kernel
theorem dX6_solves_93 : decode cX6_solves 93 = .ok (.iconst 0, 1) := by decide +kernel
theorem dX6_solves_94 : decode cX6_solves 94 = .ok (.iastore, 1) := by decide +kernel
theorem dX6_solves_95 : decode cX6_solves 95 = .ok (.goto 20, 3) := by decide +kernel
theorem dX6_solves_98 : decode cX6_solves 98 = .ok (.aload_n 0, 1) := by decide +kernel
theorem dX6_solves_99 : decode cX6_solves 99 = .ok (.iload_n 1, 1) := by decide +kernel
theorem dX6_solves_100 : decode cX6_solves 100 = .ok (.aload_n 0, 1) := by decide +kernel
theorem dX6_solves_101 : decode cX6_solves 101 = .ok (.getfield 109, 3) := by decide +kernel
theorem dX6_solves_104 : decode cX6_solves 104 = .ok (.aload_n 0, 1) := by decide +kernel
theorem dX6_solves_105 : decode cX6_solves 105 = .ok (.iload_n 1, 1) := by decide +kernel
theorem dX6_solves_106 : decode cX6_solves 106 = .ok (.invokevirtual 204, 3) := by decide +kernel
theorem dX6_solves_109 : decode cX6_solves 109 = .ok (.iadd, 1) := by decide +kernel
theorem dX6_solves_110 : decode cX6_solves 110 = .ok (.iconst 2, 1) := by decide +kernel
theorem dX6_solves_111 : decode cX6_solves 111 = .ok (.irem, 1) := by decide +kernel
theorem dX6_solves_112 : decode cX6_solves 112 = .ok (.invokevirtual 207, 3) := by decide +kernel
theorem dX6_solves_115 : decode cX6_solves 115 = .ok (.iinc 1 (-1), 3) := by decide +kernel
theorem dX6_solves_118 : decode cX6_solves 118 = .ok (.goto (-83), 3) := by decide +kernel
theorem dX6_solves_121 : decode cX6_solves 121 = .ok (.iconst 1, 1) := by decide +kernel
theorem dX6_solves_122 : decode cX6_solves 122 = .ok (.ireturn, 1) := by decide +kernel
theorem dX6_solve_0 : decode cX6_solve 0 = .ok (.aload_n 0, 1) := by decide +kernel
theorem dX6_solve_1 : decode cX6_solve 1 = .ok (.invokevirtual 210, 3) := by decide +kernel
theorem dX6_solve_4 : decode cX6_solve 4 = .ok (.ifCond .eq 12, 3) := by decide +kernel
theorem dX6_solve_7 : decode cX6_solve 7 = .ok (.aload_n 0, 1) := by decide +kernel
theorem dX6_solve_8 : decode cX6_solve 8 = .ok (.getfield 49, 3) := by decide +kernel
theorem dX6_solve_11 : decode cX6_solve 11 = .ok (.iconst 0, 1) := by decide +kernel
theorem dX6_solve_12 : decode cX6_solve 12 = .ok (.iaload, 1) := by decide +kernel
theorem dX6_solve_13 : decode cX6_solve 13 = .ok (.goto 5, 3) := by decide +kernel
theorem dX6_solve_16 : decode cX6_solve 16 = .ok (.bipush (-13), 2) := by decide +kernel
theorem dX6_solve_18 : decode cX6_solve 18 = .ok (.ireturn, 1) := by decide +kernel
theorem dX6_winning_0 : decode cX6_winning 0 = .ok (.lconst 0, 1) := by decide +kernel
theorem dX6_winning_1 : decode cX6_winning 1 = .ok (.lstore_n 1, 1) := by decide +kernel
theorem dX6_winning_2 : decode cX6_winning 2 = .ok (.iconst 0, 1) := by decide +kernel
theorem dX6_winning_3 : decode cX6_winning 3 = .ok (.istore_n 3, 1) := by decide +kernel
theorem dX6_winning_4 : decode cX6_winning 4 = .ok (.iload_n 3, 1) := by decide +kernel
theorem dX6_winning_5 : decode cX6_winning 5 = .ok (.aload_n 0, 1) := by decide +kernel
theorem dX6_winning_6 : decode cX6_winning 6 = .ok (.getfield 177, 3) := by decide +kernel
theorem dX6_winning_9 : decode cX6_winning 9 = .ok (.if_icmp .ge 62, 3) := by decide +kernel
theorem dX6_winning_12 : decode cX6_winning 12 = .ok (.aload_n 0, 1) := by decide +kernel
theorem dX6_winning_13 : decode cX6_winning 13 = .ok (.invokevirtual 129, 3) := by decide +kernel
theorem dX6_winning_16 : decode cX6_winning 16 = .ok (.bipush (-15), 2) := by decide +kernel
theorem dX6_winning_18 : decode cX6_winning 18 = .ok (.if_icmp .ne 53, 3) := by decide +kernel
theorem dX6_winning_21 : decode cX6_winning 21 = .ok (.lload_n 1, 1) := by decide +kernel
theorem dX6_winning_22 : decode cX6_winning 22 = .ok (.aload_n 0, 1) := by decide +kernel
theorem dX6_winning_23 : decode cX6_winning 23 = .ok (.getfield 49, 3) := by decide +kernel
theorem dX6_winning_26 : decode cX6_winning 26 = .ok (.aload_n 0, 1) := by decide +kernel
theorem dX6_winning_27 : decode cX6_winning 27 = .ok (.getfield 109, 3) := by decide +kernel
theorem dX6_winning_30 : decode cX6_winning 30 = .ok (.iconst 2, 1) := by decide +kernel
theorem dX6_winning_31 : decode cX6_winning 31 = .ok (.irem, 1) := by decide +kernel
theorem dX6_winning_32 : decode cX6_winning 32 = .ok (.iconst 1, 1) := by decide +kernel
theorem dX6_winning_33 : decode cX6_winning 33 = .ok (.iadd, 1) := by decide +kernel
theorem dX6_winning_34 : decode cX6_winning 34 = .ok (.aload_n 0, 1) := by decide +kernel
theorem dX6_winning_35 : decode cX6_winning 35 = .ok (.getfield 55, 3) := by decide +kernel
theorem dX6_winning_38 : decode cX6_winning 38 = .ok (.iload_n 3, 1) := by decide +kernel
theorem dX6_winning_39 : decode cX6_winning 39 = .ok (.iaload, 1) := by decide +kernel
theorem dX6_winning_40 : decode cX6_winning 40 = .ok (.imul, 1) := by decide +kernel
theorem dX6_winning_41 : decode cX6_winning 41 = .ok (.iaload, 1) := by decide +kernel
theorem dX6_winning_42 : decode cX6_winning 42 = .ok (.aload_n 0, 1) := by decide +kernel
theorem dX6_winning_43 : decode cX6_winning 43 = .ok (.getfield 109, 3) := by decide +kernel
theorem dX6_winning_46 : decode cX6_winning 46 = .ok (.iconst 2, 1) := by decide +kernel
theorem dX6_winning_47 : decode cX6_winning 47 = .ok (.irem, 1) := by decide +kernel
theorem dX6_winning_48 : decode cX6_winning 48 = .ok (.if_icmp .ne 14, 3) := by decide +kernel
theorem dX6_winning_51 : decode cX6_winning 51 = .ok (.lconst 1, 1) := by decide +kernel
theorem dX6_winning_52 : decode cX6_winning 52 = .ok (.aload_n 0, 1) := by decide +kernel
theorem dX6_winning_53 : decode cX6_winning 53 = .ok (.getfield 43, 3) := by decide +kernel
theorem dX6_winning_56 : decode cX6_winning 56 = .ok (.iload_n 3, 1) := by decide +kernel
theorem dX6_winning_57 : decode cX6_winning 57 = .ok (.iaload, 1) := by decide +kernel
theorem dX6_winning_58 : decode cX6_winning 58 = .ok (.lshl, 1) := by decide +kernel
theorem dX6_winning_59 : decode cX6_winning 59 = .ok (.goto 4, 3) := by decide +kernel
theorem dX6_winning_62 : decode cX6_winning 62 = .ok (.lconst 0, 1) := by decide +kernel
theorem dX6_winning_63 : decode cX6_winning 63 = .ok (.lor, 1) := by decide +kernel
theorem dX6_winning_64 : decode cX6_winning 64 = .ok (.lstore_n 1, 1) := by decide +kernel
theorem dX6_winning_65 : decode cX6_winning 65 = .ok (.iinc 3 1, 3) := by decide +kernel
theorem dX6_winning_68 : decode cX6_winning 68 = .ok (.goto (-64), 3) := by decide +kernel
theorem dX6_winning_71 : decode cX6_winning 71 = .ok (.lload_n 1, 1) := by decide +kernel
theorem dX6_winning_72 : decode cX6_winning 72 = .ok (.lreturn, 1) := by decide +kernel
theorem dX6_winningMoves_0 : decode cX6_winningMoves 0 = .ok (.aload_n 0, 1) := by decide +kernel
theorem dX6_winningMoves_1 : decode cX6_winningMoves 1 = .ok (.invokevirtual 210, 3) := by decide +kernel
theorem dX6_winningMoves_4 : decode cX6_winningMoves 4 = .ok (.ifCond .eq 10, 3) := by decide +kernel
theorem dX6_winningMoves_7 : decode cX6_winningMoves 7 = .ok (.aload_n 0, 1) := by decide +kernel
theorem dX6_winningMoves_8 : decode cX6_winningMoves 8 = .ok (.invokevirtual 213, 3) := by decide +kernel
theorem dX6_winningMoves_11 : decode cX6_winningMoves 11 = .ok (.goto 6, 3) := by decide +kernel
theorem dX6_winningMoves_14 : decode cX6_winningMoves 14 = .ok (.ldc2_w 191, 3) := by decide +kernel
theorem dX6_winningMoves_17 : decode cX6_winningMoves 17 = .ok (.lreturn, 1) := by decide +kernel
theorem dX6_duration_0 : decode cX6_duration 0 = .ok (.aload_n 0, 1) := by decide +kernel
theorem dX6_duration_1 : decode cX6_duration 1 = .ok (.invokevirtual 210, 3) := by decide +kernel
theorem dX6_duration_4 : decode cX6_duration 4 = .ok (.ifCond .eq 12, 3) := by decide +kernel
theorem dX6_duration_7 : decode cX6_duration 7 = .ok (.aload_n 0, 1) := by decide +kernel
theorem dX6_duration_8 : decode cX6_duration 8 = .ok (.getfield 52, 3) := by decide +kernel
theorem dX6_duration_11 : decode cX6_duration 11 = .ok (.iconst 0, 1) := by decide +kernel
theorem dX6_duration_12 : decode cX6_duration 12 = .ok (.iaload, 1) := by decide +kernel
theorem dX6_duration_13 : decode cX6_duration 13 = .ok (.goto 5, 3) := by decide +kernel
theorem dX6_duration_16 : decode cX6_duration 16 = .ok (.bipush (-13), 2) := by decide +kernel
theorem dX6_duration_18 : decode cX6_duration 18 = .ok (.ireturn, 1) := by decide +kernel
theorem dX6_winningOpenings_0 : decode cX6_winningOpenings 0 = .ok (.iload_n 1, 1) := by decide +kernel
theorem dX6_winningOpenings_1 : decode cX6_winningOpenings 1 = .ok (.iconst 2, 1) := by decide +kernel
theorem dX6_winningOpenings_2 : decode cX6_winningOpenings 2 = .ok (.iconst 3, 1) := by decide +kernel
theorem dX6_winningOpenings_3 : decode cX6_winningOpenings 3 = .ok (.invokestatic 64, 3) := by decide +kernel
theorem dX6_winningOpenings_6 : decode cX6_winningOpenings 6 = .ok (.ifCond .ne 7, 3) := by decide +kernel
theorem dX6_winningOpenings_9 : decode cX6_winningOpenings 9 = .ok (.ldc2_w 216, 3) := by decide +kernel
theorem dX6_winningOpenings_12 : decode cX6_winningOpenings 12 = .ok (.lreturn, 1) := by decide +kernel
theorem dX6_winningOpenings_13 : decode cX6_winningOpenings 13 = .ok (.aload_n 0, 1) := by decide +kernel
theorem dX6_winningOpenings_14 : decode cX6_winningOpenings 14 = .ok (.getfield 7, 3) := by decide +kernel
theorem dX6_winningOpenings_17 : decode cX6_winningOpenings 17 = .ok (.istore_n 2, 1) := by decide +kernel
theorem dX6_winningOpenings_18 : decode cX6_winningOpenings 18 = .ok (.aload_n 0, 1) := by decide +kernel
theorem dX6_winningOpenings_19 : decode cX6_winningOpenings 19 = .ok (.getfield 109, 3) := by decide +kernel
theorem dX6_winningOpenings_22 : decode cX6_winningOpenings 22 = .ok (.istore_n 3, 1) := by decide +kernel
theorem dX6_winningOpenings_23 : decode cX6_winningOpenings 23 = .ok (.aload_n 0, 1) := by decide +kernel
theorem dX6_winningOpenings_24 : decode cX6_winningOpenings 24 = .ok (.iload_n 1, 1) := by decide +kernel
theorem dX6_winningOpenings_25 : decode cX6_winningOpenings 25 = .ok (.putfield 7, 3) := by decide +kernel
theorem dX6_winningOpenings_28 : decode cX6_winningOpenings 28 = .ok (.aload_n 0, 1) := by decide +kernel
theorem dX6_winningOpenings_29 : decode cX6_winningOpenings 29 = .ok (.iconst 0, 1) := by decide +kernel
theorem dX6_winningOpenings_30 : decode cX6_winningOpenings 30 = .ok (.putfield 109, 3) := by decide +kernel
theorem dX6_winningOpenings_33 : decode cX6_winningOpenings 33 = .ok (.aload_n 0, 1) := by decide +kernel
theorem dX6_winningOpenings_34 : decode cX6_winningOpenings 34 = .ok (.invokevirtual 61, 3) := by decide +kernel
theorem dX6_winningOpenings_37 : decode cX6_winningOpenings 37 = .ok (.aload_n 0, 1) := by decide +kernel
theorem dX6_winningOpenings_38 : decode cX6_winningOpenings 38 = .ok (.iconst 0, 1) := by decide +kernel
theorem dX6_winningOpenings_39 : decode cX6_winningOpenings 39 = .ok (.invokevirtual 115, 3) := by decide +kernel
theorem dX6_winningOpenings_42 : decode cX6_winningOpenings 42 = .ok (.aload_n 0, 1) := by decide +kernel
theorem dX6_winningOpenings_43 : decode cX6_winningOpenings 43 = .ok (.invokevirtual 210, 3) := by decide +kernel
theorem dX6_winningOpenings_46 : decode cX6_winningOpenings 46 = .ok (.istore 4, 2) := by decide +kernel
theorem dX6_winningOpenings_48 : decode cX6_winningOpenings 48 = .ok (.iload 4, 2) := by decide +kernel
theorem dX6_winningOpenings_50 : decode cX6_winningOpenings 50 = .ok (.ifCond .eq 10, 3) := by decide +kernel
theorem dX6_winningOpenings_53 : decode cX6_winningOpenings 53 = .ok (.aload_n 0, 1) := by decide +kernel
theorem dX6_winningOpenings_54 : decode cX6_winningOpenings 54 = .ok (.invokevirtual 213, 3) := by decide +kernel
theorem dX6_winningOpenings_57 : decode cX6_winningOpenings 57 = .ok (.goto 4, 3) := by decide +kernel
theorem dX6_winningOpenings_60 : decode cX6_winningOpenings 60 = .ok (.lconst 0, 1) := by decide +kernel
theorem dX6_winningOpenings_61 : decode cX6_winningOpenings 61 = .ok (.lstore 5, 2) := by decide +kernel
theorem dX6_winningOpenings_63 : decode cX6_winningOpenings 63 = .ok (.aload_n 0, 1) := by decide +kernel
theorem dX6_winningOpenings_64 : decode cX6_winningOpenings 64 = .ok (.iload_n 2, 1) := by decide +kernel
theorem dX6_winningOpenings_65 : decode cX6_winningOpenings 65 = .ok (.putfield 7, 3) := by decide +kernel
theorem dX6_winningOpenings_68 : decode cX6_winningOpenings 68 = .ok (.aload_n 0, 1) := by decide +kernel
theorem dX6_winningOpenings_69 : decode cX6_winningOpenings 69 = .ok (.iload_n 3, 1) := by decide +kernel
theorem dX6_winningOpenings_70 : decode cX6_winningOpenings 70 = .ok (.putfield 109, 3) := by decide +kernel
theorem dX6_winningOpenings_73 : decode cX6_winningOpenings 73 = .ok (.aload_n 0, 1) := by decide +kernel
theorem dX6_winningOpenings_74 : decode cX6_winningOpenings 74 = .ok (.invokevirtual 61, 3) := by decide +kernel
theorem dX6_winningOpenings_77 : decode cX6_winningOpenings 77 = .ok (.aload_n 0, 1) := by decide +kernel
theorem dX6_winningOpenings_78 : decode cX6_winningOpenings 78 = .ok (.aload_n 0, 1) := by decide +kernel
theorem dX6_winningOpenings_79 : decode cX6_winningOpenings 79 = .ok (.getfield 109, 3) := by decide +kernel
theorem dX6_winningOpenings_82 : decode cX6_winningOpenings 82 = .ok (.invokevirtual 115, 3) := by decide +kernel
theorem dX6_winningOpenings_85 : decode cX6_winningOpenings 85 = .ok (.lload 5, 2) := by decide +kernel
theorem dX6_winningOpenings_87 : decode cX6_winningOpenings 87 = .ok (.lreturn, 1) := by decide +kernel
theorem dX6_isPlace_0 : decode cX6_isPlace 0 = .ok (.iload_n 1, 1) := by decide +kernel
theorem dX6_isPlace_1 : decode cX6_isPlace 1 = .ok (.bipush (-4), 2) := by decide +kernel
theorem dX6_isPlace_3 : decode cX6_isPlace 3 = .ok (.aload_n 0, 1) := by decide +kernel
theorem dX6_isPlace_4 : decode cX6_isPlace 4 = .ok (.getfield 7, 3) := by decide +kernel
theorem dX6_isPlace_7 : decode cX6_isPlace 7 = .ok (.aload_n 0, 1) := by decide +kernel
theorem dX6_isPlace_8 : decode cX6_isPlace 8 = .ok (.getfield 7, 3) := by decide +kernel
theorem dX6_isPlace_11 : decode cX6_isPlace 11 = .ok (.imul, 1) := by decide +kernel
theorem dX6_isPlace_12 : decode cX6_isPlace 12 = .ok (.iconst 1, 1) := by decide +kernel
theorem dX6_isPlace_13 : decode cX6_isPlace 13 = .ok (.isub, 1) := by decide +kernel
theorem dX6_isPlace_14 : decode cX6_isPlace 14 = .ok (.invokestatic 64, 3) := by decide +kernel
theorem dX6_isPlace_17 : decode cX6_isPlace 17 = .ok (.ireturn, 1) := by decide +kernel
theorem dX6_place_0 : decode cX6_place 0 = .ok (.iload_n 1, 1) := by decide +kernel
theorem dX6_place_1 : decode cX6_place 1 = .ok (.ifCond .ge 13, 3) := by decide +kernel
theorem dX6_place_4 : decode cX6_place 4 = .ok (.aload_n 0, 1) := by decide +kernel
theorem dX6_place_5 : decode cX6_place 5 = .ok (.iconst (-1), 1) := by decide +kernel
theorem dX6_place_6 : decode cX6_place 6 = .ok (.iload_n 1, 1) := by decide +kernel
theorem dX6_place_7 : decode cX6_place 7 = .ok (.isub, 1) := by decide +kernel
theorem dX6_place_8 : decode cX6_place 8 = .ok (.invokevirtual 93, 3) := by decide +kernel
theorem dX6_place_11 : decode cX6_place 11 = .ok (.goto 6, 3) := by decide +kernel
theorem dX6_place_14 : decode cX6_place 14 = .ok (.lconst 1, 1) := by decide +kernel
theorem dX6_place_15 : decode cX6_place 15 = .ok (.iload_n 1, 1) := by decide +kernel
theorem dX6_place_16 : decode cX6_place 16 = .ok (.lshl, 1) := by decide +kernel
theorem dX6_place_17 : decode cX6_place 17 = .ok (.lreturn, 1) := by decide +kernel
theorem dX6_arePlaces_0 : decode cX6_arePlaces 0 = .ok (.iload_n 1, 1) := by decide +kernel
theorem dX6_arePlaces_1 : decode cX6_arePlaces 1 = .ok (.invokestatic 136, 3) := by decide +kernel
theorem dX6_arePlaces_4 : decode cX6_arePlaces 4 = .ok (.ifCond .eq 28, 3) := by decide +kernel
theorem dX6_arePlaces_7 : decode cX6_arePlaces 7 = .ok (.aload_n 0, 1) := by decide +kernel
theorem dX6_arePlaces_8 : decode cX6_arePlaces 8 = .ok (.iload_n 2, 1) := by decide +kernel
theorem dX6_arePlaces_9 : decode cX6_arePlaces 9 = .ok (.invokevirtual 218, 3) := by decide +kernel
theorem dX6_arePlaces_12 : decode cX6_arePlaces 12 = .ok (.ifCond .eq 20, 3) := by decide +kernel
theorem dX6_arePlaces_15 : decode cX6_arePlaces 15 = .ok (.aload_n 0, 1) := by decide +kernel
theorem dX6_arePlaces_16 : decode cX6_arePlaces 16 = .ok (.iload_n 3, 1) := by decide +kernel
theorem dX6_arePlaces_17 : decode cX6_arePlaces 17 = .ok (.invokevirtual 218, 3) := by decide +kernel
theorem dX6_arePlaces_20 : decode cX6_arePlaces 20 = .ok (.ifCond .eq 12, 3) := by decide +kernel
theorem dX6_arePlaces_23 : decode cX6_arePlaces 23 = .ok (.iload_n 2, 1) := by decide +kernel
theorem dX6_arePlaces_24 : decode cX6_arePlaces 24 = .ok (.iload_n 3, 1) := by decide +kernel
theorem dX6_arePlaces_25 : decode cX6_arePlaces 25 = .ok (.if_icmp .eq 7, 3) := by decide +kernel
theorem dX6_arePlaces_28 : decode cX6_arePlaces 28 = .ok (.iconst 1, 1) := by decide +kernel
theorem dX6_arePlaces_29 : decode cX6_arePlaces 29 = .ok (.goto 4, 3) := by decide +kernel
theorem dX6_arePlaces_32 : decode cX6_arePlaces 32 = .ok (.iconst 0, 1) := by decide +kernel
theorem dX6_arePlaces_33 : decode cX6_arePlaces 33 = .ok (.ireturn, 1) := by decide +kernel
theorem dX6_isRegion_0 : decode cX6_isRegion 0 = .ok (.lload_n 1, 1) := by decide +kernel
theorem dX6_isRegion_1 : decode cX6_isRegion 1 = .ok (.aload_n 0, 1) := by decide +kernel
theorem dX6_isRegion_2 : decode cX6_isRegion 2 = .ok (.invokevirtual 126, 3) := by decide +kernel
theorem dX6_isRegion_5 : decode cX6_isRegion 5 = .ok (.ldc2_w 80, 3) := by decide +kernel
theorem dX6_isRegion_8 : decode cX6_isRegion 8 = .ok (.lxor, 1) := by decide +kernel
theorem dX6_isRegion_9 : decode cX6_isRegion 9 = .ok (.land, 1) := by decide +kernel
theorem dX6_isRegion_10 : decode cX6_isRegion 10 = .ok (.lconst 0, 1) := by decide +kernel
theorem dX6_isRegion_11 : decode cX6_isRegion 11 = .ok (.lcmp, 1) := by decide +kernel
theorem dX6_isRegion_12 : decode cX6_isRegion 12 = .ok (.ifCond .ne 15, 3) := by decide +kernel
theorem dX6_isRegion_15 : decode cX6_isRegion 15 = .ok (.lload_n 1, 1) := by decide +kernel
theorem dX6_isRegion_16 : decode cX6_isRegion 16 = .ok (.invokestatic 164, 3) := by decide +kernel
theorem dX6_isRegion_19 : decode cX6_isRegion 19 = .ok (.iload_n 3, 1) := by decide +kernel
theorem dX6_isRegion_20 : decode cX6_isRegion 20 = .ok (.if_icmp .gt 7, 3) := by decide +kernel
theorem dX6_isRegion_23 : decode cX6_isRegion 23 = .ok (.iconst 1, 1) := by decide +kernel
theorem dX6_isRegion_24 : decode cX6_isRegion 24 = .ok (.goto 4, 3) := by decide +kernel
theorem dX6_isRegion_27 : decode cX6_isRegion 27 = .ok (.iconst 0, 1) := by decide +kernel
theorem dX6_isRegion_28 : decode cX6_isRegion 28 = .ok (.ireturn, 1) := by decide +kernel
theorem dX6_connects_0 : decode cX6_connects 0 = .ok (.aload_n 0, 1) := by decide +kernel
theorem dX6_connects_1 : decode cX6_connects 1 = .ok (.lload 4, 2) := by decide +kernel
theorem dX6_connects_3 : decode cX6_connects 3 = .ok (.invokevirtual 180, 3) := by decide +kernel
theorem dX6_connects_6 : decode cX6_connects 6 = .ok (.aload_n 0, 1) := by decide +kernel
theorem dX6_connects_7 : decode cX6_connects 7 = .ok (.invokevirtual 197, 3) := by decide +kernel
theorem dX6_connects_10 : decode cX6_connects 10 = .ok (.aload_n 0, 1) := by decide +kernel
theorem dX6_connects_11 : decode cX6_connects 11 = .ok (.getfield 55, 3) := by decide +kernel
theorem dX6_connects_14 : decode cX6_connects 14 = .ok (.aload_n 0, 1) := by decide +kernel
theorem dX6_connects_15 : decode cX6_connects 15 = .ok (.getfield 177, 3) := by decide +kernel
theorem dX6_connects_18 : decode cX6_connects 18 = .ok (.iaload, 1) := by decide +kernel
theorem dX6_connects_19 : decode cX6_connects 19 = .ok (.iconst 1, 1) := by decide +kernel
theorem dX6_connects_20 : decode cX6_connects 20 = .ok (.isub, 1) := by decide +kernel
theorem dX6_connects_21 : decode cX6_connects 21 = .ok (.istore 7, 2) := by decide +kernel
theorem dX6_connects_23 : decode cX6_connects 23 = .ok (.iload 7, 2) := by decide +kernel
theorem dX6_connects_25 : decode cX6_connects 25 = .ok (.ifCond .lt 83, 3) := by decide +kernel
theorem dX6_connects_28 : decode cX6_connects 28 = .ok (.aload_n 0, 1) := by decide +kernel
theorem dX6_connects_29 : decode cX6_connects 29 = .ok (.iload 7, 2) := by decide +kernel
theorem dX6_connects_31 : decode cX6_connects 31 = .ok (.invokevirtual 204, 3) := by decide +kernel
theorem dX6_connects_34 : decode cX6_connects 34 = .ok (.istore 8, 2) := by decide +kernel
theorem dX6_connects_36 : decode cX6_connects 36 = .ok (.iload 8, 2) := by decide +kernel
theorem dX6_connects_38 : decode cX6_connects 38 = .ok (.aload_n 0, 1) := by decide +kernel
theorem dX6_connects_39 : decode cX6_connects 39 = .ok (.getfield 177, 3) := by decide +kernel
theorem dX6_connects_42 : decode cX6_connects 42 = .ok (.if_icmp .ne 47, 3) := by decide +kernel
theorem dX6_connects_45 : decode cX6_connects 45 = .ok (.aload_n 0, 1) := by decide +kernel
theorem dX6_connects_46 : decode cX6_connects 46 = .ok (.getfield 49, 3) := by decide +kernel
theorem dX6_connects_49 : decode cX6_connects 49 = .ok (.iload 7, 2) := by decide +kernel
theorem dX6_connects_51 : decode cX6_connects 51 = .ok (.aload_n 0, 1) := by decide +kernel
theorem dX6_connects_52 : decode cX6_connects 52 = .ok (.aload_n 0, 1) := by decide +kernel
theorem dX6_connects_53 : decode cX6_connects 53 = .ok (.iload_n 2, 1) := by decide +kernel
theorem dX6_connects_54 : decode cX6_connects 54 = .ok (.invokevirtual 221, 3) := by decide +kernel
theorem dX6_connects_57 : decode cX6_connects 57 = .ok (.aload_n 0, 1) := by decide +kernel
theorem dX6_connects_58 : decode cX6_connects 58 = .ok (.iload 7, 2) := by decide +kernel
theorem dX6_connects_60 : decode cX6_connects 60 = .ok (.iload_n 1, 1) := by decide +kernel
theorem dX6_connects_61 : decode cX6_connects 61 = .ok (.invokevirtual 200, 3) := by decide +kernel
theorem dX6_connects_64 : decode cX6_connects 64 = .ok (.invokevirtual 97, 3) := by decide +kernel
theorem dX6_connects_67 : decode cX6_connects 67 = .ok (.aload_n 0, 1) := by decide +kernel
theorem dX6_connects_68 : decode cX6_connects 68 = .ok (.iload_n 3, 1) := by decide +kernel
theorem dX6_connects_69 : decode cX6_connects 69 = .ok (.invokevirtual 221, 3) := by decide +kernel
theorem dX6_connects_72 : decode cX6_connects 72 = .ok (.land, 1) := by decide +kernel
theorem dX6_connects_73 : decode cX6_connects 73 = .ok (.lconst 0, 1) := by decide +kernel
theorem dX6_connects_74 : decode cX6_connects 74 = .ok (.lcmp, 1) := by decide +kernel
theorem dX6_connects_75 : decode cX6_connects 75 = .ok (.ifCond .eq 7, 3) := by decide +kernel
theorem dX6_connects_78 : decode cX6_connects 78 = .ok (.iload_n 1, 1) := by decide +kernel
theorem dX6_connects_79 : decode cX6_connects 79 = .ok (.goto 6, 3) := by decide +kernel
theorem dX6_connects_82 : decode cX6_connects 82 = .ok (.iconst 1, 1) := by decide +kernel
theorem dX6_connects_83 : decode cX6_connects 83 = .ok (.iload_n 1, 1) := by decide +kernel
theorem dX6_connects_84 : decode cX6_connects 84 = .ok (.isub, 1) := by decide +kernel
theorem dX6_connects_85 : decode cX6_connects 85 = .ok (.iastore, 1) := by decide +kernel
theorem dX6_connects_86 : decode cX6_connects 86 = .ok (.goto 16, 3) := by decide +kernel
theorem dX6_connects_89 : decode cX6_connects 89 = .ok (.aload_n 0, 1) := by decide +kernel
theorem dX6_connects_90 : decode cX6_connects 90 = .ok (.iload 7, 2) := by decide +kernel
theorem dX6_connects_92 : decode cX6_connects 92 = .ok (.iload 6, 2) := by decide +kernel
theorem dX6_connects_94 : decode cX6_connects 94 = .ok (.iload 8, 2) := by decide +kernel
theorem dX6_connects_96 : decode cX6_connects 96 = .ok (.iadd, 1) := by decide +kernel
theorem dX6_connects_97 : decode cX6_connects 97 = .ok (.iconst 2, 1) := by decide +kernel
theorem dX6_connects_98 : decode cX6_connects 98 = .ok (.irem, 1) := by decide +kernel
theorem dX6_connects_99 : decode cX6_connects 99 = .ok (.invokevirtual 207, 3) := by decide +kernel
theorem dX6_connects_102 : decode cX6_connects 102 = .ok (.iinc 7 (-1), 3) := by decide +kernel
theorem dX6_connects_105 : decode cX6_connects 105 = .ok (.goto (-82), 3) := by decide +kernel
theorem dX6_connects_108 : decode cX6_connects 108 = .ok (.aload_n 0, 1) := by decide +kernel
theorem dX6_connects_109 : decode cX6_connects 109 = .ok (.getfield 49, 3) := by decide +kernel
theorem dX6_connects_112 : decode cX6_connects 112 = .ok (.iconst 0, 1) := by decide +kernel
theorem dX6_connects_113 : decode cX6_connects 113 = .ok (.iaload, 1) := by decide +kernel
theorem dX6_connects_114 : decode cX6_connects 114 = .ok (.iload_n 1, 1) := by decide +kernel
theorem dX6_connects_115 : decode cX6_connects 115 = .ok (.if_icmp .ne 7, 3) := by decide +kernel
theorem dX6_connects_118 : decode cX6_connects 118 = .ok (.iconst 1, 1) := by decide +kernel
theorem dX6_connects_119 : decode cX6_connects 119 = .ok (.goto 4, 3) := by decide +kernel
theorem dX6_connects_122 : decode cX6_connects 122 = .ok (.iconst 0, 1) := by decide +kernel
theorem dX6_connects_123 : decode cX6_connects 123 = .ok (.ireturn, 1) := by decide +kernel
theorem dX6_strengthOf_0 : decode cX6_strengthOf 0 = .ok (.aload_n 0, 1) := by decide +kernel
theorem dX6_strengthOf_1 : decode cX6_strengthOf 1 = .ok (.iload_n 1, 1) := by decide +kernel
theorem dX6_strengthOf_2 : decode cX6_strengthOf 2 = .ok (.iload_n 2, 1) := by decide +kernel
theorem dX6_strengthOf_3 : decode cX6_strengthOf 3 = .ok (.iload_n 3, 1) := by decide +kernel
theorem dX6_strengthOf_4 : decode cX6_strengthOf 4 = .ok (.lload 4, 2) := by decide +kernel
theorem dX6_strengthOf_6 : decode cX6_strengthOf 6 = .ok (.iconst 1, 1) := by decide +kernel
theorem dX6_strengthOf_7 : decode cX6_strengthOf 7 = .ok (.iload_n 1, 1) := by decide +kernel
theorem dX6_strengthOf_8 : decode cX6_strengthOf 8 = .ok (.isub, 1) := by decide +kernel
theorem dX6_strengthOf_9 : decode cX6_strengthOf 9 = .ok (.invokevirtual 224, 3) := by decide +kernel
theorem dX6_strengthOf_12 : decode cX6_strengthOf 12 = .ok (.ifCond .eq 7, 3) := by decide +kernel
theorem dX6_strengthOf_15 : decode cX6_strengthOf 15 = .ok (.iconst 2, 1) := by decide +kernel
theorem dX6_strengthOf_16 : decode cX6_strengthOf 16 = .ok (.goto 21, 3) := by decide +kernel
theorem dX6_strengthOf_19 : decode cX6_strengthOf 19 = .ok (.aload_n 0, 1) := by decide +kernel
theorem dX6_strengthOf_20 : decode cX6_strengthOf 20 = .ok (.iload_n 1, 1) := by decide +kernel
theorem dX6_strengthOf_21 : decode cX6_strengthOf 21 = .ok (.iload_n 2, 1) := by decide +kernel
theorem dX6_strengthOf_22 : decode cX6_strengthOf 22 = .ok (.iload_n 3, 1) := by decide +kernel
theorem dX6_strengthOf_23 : decode cX6_strengthOf 23 = .ok (.lload 4, 2) := by decide +kernel
theorem dX6_strengthOf_25 : decode cX6_strengthOf 25 = .ok (.iload_n 1, 1) := by decide +kernel
theorem dX6_strengthOf_26 : decode cX6_strengthOf 26 = .ok (.invokevirtual 224, 3) := by decide +kernel
theorem dX6_strengthOf_29 : decode cX6_strengthOf 29 = .ok (.ifCond .eq 7, 3) := by decide +kernel
theorem dX6_strengthOf_32 : decode cX6_strengthOf 32 = .ok (.iconst 1, 1) := by decide +kernel
theorem dX6_strengthOf_33 : decode cX6_strengthOf 33 = .ok (.goto 4, 3) := by decide +kernel
theorem dX6_strengthOf_36 : decode cX6_strengthOf 36 = .ok (.iconst 0, 1) := by decide +kernel
theorem dX6_strengthOf_37 : decode cX6_strengthOf 37 = .ok (.ireturn, 1) := by decide +kernel
theorem dX6_strength_0 : decode cX6_strength 0 = .ok (.aload_n 0, 1) := by decide +kernel
theorem dX6_strength_1 : decode cX6_strength 1 = .ok (.iload_n 1, 1) := by decide +kernel
theorem dX6_strength_2 : decode cX6_strength 2 = .ok (.iload_n 2, 1) := by decide +kernel
theorem dX6_strength_3 : decode cX6_strength 3 = .ok (.iload_n 3, 1) := by decide +kernel
theorem dX6_strength_4 : decode cX6_strength 4 = .ok (.invokevirtual 228, 3) := by decide +kernel
theorem dX6_strength_7 : decode cX6_strength 7 = .ok (.ifCond .ne 6, 3) := by decide +kernel
theorem dX6_strength_10 : decode cX6_strength 10 = .ok (.bipush (-11), 2) := by decide +kernel
theorem dX6_strength_12 : decode cX6_strength 12 = .ok (.ireturn, 1) := by decide +kernel
theorem dX6_strength_13 : decode cX6_strength 13 = .ok (.aload_n 0, 1) := by decide +kernel
theorem dX6_strength_14 : decode cX6_strength 14 = .ok (.lload 4, 2) := by decide +kernel
theorem dX6_strength_16 : decode cX6_strength 16 = .ok (.bipush 8, 2) := by decide +kernel
theorem dX6_strength_18 : decode cX6_strength 18 = .ok (.invokevirtual 231, 3) := by decide +kernel
theorem dX6_strength_21 : decode cX6_strength 21 = .ok (.ifCond .eq 15, 3) := by decide +kernel
theorem dX6_strength_24 : decode cX6_strength 24 = .ok (.aload_n 0, 1) := by decide +kernel
theorem dX6_strength_25 : decode cX6_strength 25 = .ok (.iload_n 1, 1) := by decide +kernel
theorem dX6_strength_26 : decode cX6_strength 26 = .ok (.iload_n 2, 1) := by decide +kernel
theorem dX6_strength_27 : decode cX6_strength 27 = .ok (.iload_n 3, 1) := by decide +kernel
theorem dX6_strength_28 : decode cX6_strength 28 = .ok (.lload 4, 2) := by decide +kernel
theorem dX6_strength_30 : decode cX6_strength 30 = .ok (.invokevirtual 234, 3) := by decide +kernel
theorem dX6_strength_33 : decode cX6_strength 33 = .ok (.goto 5, 3) := by decide +kernel
theorem dX6_strength_36 : decode cX6_strength 36 = .ok (.bipush (-12), 2) := by decide +kernel
theorem dX6_strength_38 : decode cX6_strength 38 = .ok (.ireturn, 1) := by decide +kernel
theorem dX6_smallestFull_0 : decode cX6_smallestFull 0 = .ok (.aload_n 0, 1) := by decide +kernel
theorem dX6_smallestFull_1 : decode cX6_smallestFull 1 = .ok (.iload_n 1, 1) := by decide +kernel
theorem dX6_smallestFull_2 : decode cX6_smallestFull 2 = .ok (.iload_n 2, 1) := by decide +kernel
theorem dX6_smallestFull_3 : decode cX6_smallestFull 3 = .ok (.iload_n 3, 1) := by decide +kernel
theorem dX6_smallestFull_4 : decode cX6_smallestFull 4 = .ok (.invokevirtual 228, 3) := by decide +kernel
theorem dX6_smallestFull_7 : decode cX6_smallestFull 7 = .ok (.ifCond .ne 6, 3) := by decide +kernel
theorem dX6_smallestFull_10 : decode cX6_smallestFull 10 = .ok (.bipush (-11), 2) := by decide +kernel
theorem dX6_smallestFull_12 : decode cX6_smallestFull 12 = .ok (.ireturn, 1) := by decide +kernel
theorem dX6_smallestFull_13 : decode cX6_smallestFull 13 = .ok (.aload_n 0, 1) := by decide +kernel
theorem dX6_smallestFull_14 : decode cX6_smallestFull 14 = .ok (.lload 4, 2) := by decide +kernel
theorem dX6_smallestFull_16 : decode cX6_smallestFull 16 = .ok (.bipush 6, 2) := by decide +kernel
theorem dX6_smallestFull_18 : decode cX6_smallestFull 18 = .ok (.invokevirtual 231, 3) := by decide +kernel
theorem dX6_smallestFull_21 : decode cX6_smallestFull 21 = .ok (.ifCond .ne 6, 3) := by decide +kernel
theorem dX6_smallestFull_24 : decode cX6_smallestFull 24 = .ok (.bipush (-12), 2) := by decide +kernel
theorem dX6_smallestFull_26 : decode cX6_smallestFull 26 = .ok (.ireturn, 1) := by decide +kernel
theorem dX6_smallestFull_27 : decode cX6_smallestFull 27 = .ok (.bipush 100, 2) := by decide +kernel
theorem dX6_smallestFull_29 : decode cX6_smallestFull 29 = .ok (.istore 6, 2) := by decide +kernel
theorem dX6_smallestFull_31 : decode cX6_smallestFull 31 = .ok (.lload 4, 2) := by decide +kernel
theorem dX6_smallestFull_33 : decode cX6_smallestFull 33 = .ok (.lstore 7, 2) := by decide +kernel
theorem dX6_smallestFull_35 : decode cX6_smallestFull 35 = .ok (.iconst 1, 1) := by decide +kernel
theorem dX6_smallestFull_36 : decode cX6_smallestFull 36 = .ok (.istore 9, 2) := by decide +kernel
theorem dX6_smallestFull_38 : decode cX6_smallestFull 38 = .ok (.iload 9, 2) := by decide +kernel
theorem dX6_smallestFull_40 : decode cX6_smallestFull 40 = .ok (.ifCond .eq 61, 3) := by decide +kernel
theorem dX6_smallestFull_43 : decode cX6_smallestFull 43 = .ok (.lload 7, 2) := by decide +kernel
theorem dX6_smallestFull_45 : decode cX6_smallestFull 45 = .ok (.invokestatic 164, 3) := by decide +kernel
theorem dX6_smallestFull_48 : decode cX6_smallestFull 48 = .ok (.iload 6, 2) := by decide +kernel
theorem dX6_smallestFull_50 : decode cX6_smallestFull 50 = .ok (.if_icmp .ge 25, 3) := by decide +kernel
theorem dX6_smallestFull_53 : decode cX6_smallestFull 53 = .ok (.aload_n 0, 1) := by decide +kernel
theorem dX6_smallestFull_54 : decode cX6_smallestFull 54 = .ok (.iload_n 1, 1) := by decide +kernel
theorem dX6_smallestFull_55 : decode cX6_smallestFull 55 = .ok (.iload_n 2, 1) := by decide +kernel
theorem dX6_smallestFull_56 : decode cX6_smallestFull 56 = .ok (.iload_n 3, 1) := by decide +kernel
theorem dX6_smallestFull_57 : decode cX6_smallestFull 57 = .ok (.lload 7, 2) := by decide +kernel
theorem dX6_smallestFull_59 : decode cX6_smallestFull 59 = .ok (.iconst 1, 1) := by decide +kernel
theorem dX6_smallestFull_60 : decode cX6_smallestFull 60 = .ok (.iload_n 1, 1) := by decide +kernel
theorem dX6_smallestFull_61 : decode cX6_smallestFull 61 = .ok (.isub, 1) := by decide +kernel
theorem dX6_smallestFull_62 : decode cX6_smallestFull 62 = .ok (.invokevirtual 224, 3) := by decide +kernel
theorem dX6_smallestFull_65 : decode cX6_smallestFull 65 = .ok (.ifCond .eq 10, 3) := by decide +kernel
theorem dX6_smallestFull_68 : decode cX6_smallestFull 68 = .ok (.lload 7, 2) := by decide +kernel
theorem dX6_smallestFull_70 : decode cX6_smallestFull 70 = .ok (.invokestatic 164, 3) := by decide +kernel
theorem dX6_smallestFull_73 : decode cX6_smallestFull 73 = .ok (.istore 6, 2) := by decide +kernel
theorem dX6_smallestFull_75 : decode cX6_smallestFull 75 = .ok (.lload 7, 2) := by decide +kernel
theorem dX6_smallestFull_77 : decode cX6_smallestFull 77 = .ok (.lconst 0, 1) := by decide +kernel
theorem dX6_smallestFull_78 : decode cX6_smallestFull 78 = .ok (.lcmp, 1) := by decide +kernel
theorem dX6_smallestFull_79 : decode cX6_smallestFull 79 = .ok (.ifCond .eq 7, 3) := by decide +kernel
theorem dX6_smallestFull_82 : decode cX6_smallestFull 82 = .ok (.iconst 1, 1) := by decide +kernel
theorem dX6_smallestFull_83 : decode cX6_smallestFull 83 = .ok (.goto 4, 3) := by decide +kernel
theorem dX6_smallestFull_86 : decode cX6_smallestFull 86 = .ok (.iconst 0, 1) := by decide +kernel
theorem dX6_smallestFull_87 : decode cX6_smallestFull 87 = .ok (.istore 9, 2) := by decide +kernel
theorem dX6_smallestFull_89 : decode cX6_smallestFull 89 = .ok (.lload 7, 2) := by decide +kernel
theorem dX6_smallestFull_91 : decode cX6_smallestFull 91 = .ok (.lconst 1, 1) := by decide +kernel
theorem dX6_smallestFull_92 : decode cX6_smallestFull 92 = .ok (.lsub, 1) := by decide +kernel
theorem dX6_smallestFull_93 : decode cX6_smallestFull 93 = .ok (.lload 4, 2) := by decide +kernel
theorem dX6_smallestFull_95 : decode cX6_smallestFull 95 = .ok (.land, 1) := by decide +kernel
theorem dX6_smallestFull_96 : decode cX6_smallestFull 96 = .ok (.lstore 7, 2) := by decide +kernel
theorem dX6_smallestFull_98 : decode cX6_smallestFull 98 = .ok (.goto (-60), 3) := by decide +kernel
theorem dX6_smallestFull_101 : decode cX6_smallestFull 101 = .ok (.iload 6, 2) := by decide +kernel
theorem dX6_smallestFull_103 : decode cX6_smallestFull 103 = .ok (.bipush 100, 2) := by decide +kernel
theorem dX6_smallestFull_105 : decode cX6_smallestFull 105 = .ok (.if_icmp .ne 8, 3) := by decide +kernel
theorem dX6_smallestFull_108 : decode cX6_smallestFull 108 = .ok (.bipush (-15), 2) := by decide +kernel
theorem dX6_smallestFull_110 : decode cX6_smallestFull 110 = .ok (.goto 5, 3) := by decide +kernel
theorem dX6_smallestFull_113 : decode cX6_smallestFull 113 = .ok (.iload 6, 2) := by decide +kernel
theorem dX6_smallestFull_115 : decode cX6_smallestFull 115 = .ok (.ireturn, 1) := by decide +kernel
theorem dX6_addThreat_0 : decode cX6_addThreat 0 = .ok (.iload_n 1, 1) := by decide +kernel
theorem dX6_addThreat_1 : decode cX6_addThreat 1 = .ok (.invokestatic 136, 3) := by decide +kernel
theorem dX6_addThreat_4 : decode cX6_addThreat 4 = .ok (.ifCond .ne 6, 3) := by decide +kernel
theorem dX6_addThreat_7 : decode cX6_addThreat 7 = .ok (.bipush (-11), 2) := by decide +kernel
theorem dX6_addThreat_9 : decode cX6_addThreat 9 = .ok (.ireturn, 1) := by decide +kernel
theorem dX6_addThreat_10 : decode cX6_addThreat 10 = .ok (.aload_n 0, 1) := by decide +kernel
theorem dX6_addThreat_11 : decode cX6_addThreat 11 = .ok (.lload_n 2, 1) := by decide +kernel
theorem dX6_addThreat_12 : decode cX6_addThreat 12 = .ok (.bipush 8, 2) := by decide +kernel
theorem dX6_addThreat_14 : decode cX6_addThreat 14 = .ok (.invokevirtual 231, 3) := by decide +kernel
theorem dX6_addThreat_17 : decode cX6_addThreat 17 = .ok (.ifCond .ne 6, 3) := by decide +kernel
theorem dX6_addThreat_20 : decode cX6_addThreat 20 = .ok (.bipush (-12), 2) := by decide +kernel
theorem dX6_addThreat_22 : decode cX6_addThreat 22 = .ok (.ireturn, 1) := by decide +kernel
theorem dX6_addThreat_23 : decode cX6_addThreat 23 = .ok (.aload_n 0, 1) := by decide +kernel
theorem dX6_addThreat_24 : decode cX6_addThreat 24 = .ok (.iload_n 1, 1) := by decide +kernel
theorem dX6_addThreat_25 : decode cX6_addThreat 25 = .ok (.iconst (-1), 1) := by decide +kernel
theorem dX6_addThreat_26 : decode cX6_addThreat 26 = .ok (.iconst 2, 1) := by decide +kernel
theorem dX6_addThreat_27 : decode cX6_addThreat 27 = .ok (.iload_n 1, 1) := by decide +kernel
theorem dX6_addThreat_28 : decode cX6_addThreat 28 = .ok (.imul, 1) := by decide +kernel
theorem dX6_addThreat_29 : decode cX6_addThreat 29 = .ok (.isub, 1) := by decide +kernel
theorem dX6_addThreat_30 : decode cX6_addThreat 30 = .ok (.bipush (-2), 2) := by decide +kernel
theorem dX6_addThreat_32 : decode cX6_addThreat 32 = .ok (.iconst 2, 1) := by decide +kernel
theorem dX6_addThreat_33 : decode cX6_addThreat 33 = .ok (.iload_n 1, 1) := by decide +kernel
theorem dX6_addThreat_34 : decode cX6_addThreat 34 = .ok (.imul, 1) := by decide +kernel
theorem dX6_addThreat_35 : decode cX6_addThreat 35 = .ok (.isub, 1) := by decide +kernel
theorem dX6_addThreat_36 : decode cX6_addThreat 36 = .ok (.lload_n 2, 1) := by decide +kernel
theorem dX6_addThreat_37 : decode cX6_addThreat 37 = .ok (.iload_n 1, 1) := by decide +kernel
theorem dX6_addThreat_38 : decode cX6_addThreat 38 = .ok (.invokevirtual 224, 3) := by decide +kernel
theorem dX6_addThreat_41 : decode cX6_addThreat 41 = .ok (.ifCond .ne 6, 3) := by decide +kernel
theorem dX6_addThreat_44 : decode cX6_addThreat 44 = .ok (.bipush (-13), 2) := by decide +kernel
theorem dX6_addThreat_46 : decode cX6_addThreat 46 = .ok (.ireturn, 1) := by decide +kernel
theorem dX6_addThreat_47 : decode cX6_addThreat 47 = .ok (.aload_n 0, 1) := by decide +kernel
theorem dX6_addThreat_48 : decode cX6_addThreat 48 = .ok (.getfield 119, 3) := by decide +kernel
theorem dX6_addThreat_51 : decode cX6_addThreat 51 = .ok (.bipush 6, 2) := by decide +kernel
theorem dX6_addThreat_53 : decode cX6_addThreat 53 = .ok (.if_icmp .ne 6, 3) := by decide +kernel
theorem dX6_addThreat_56 : decode cX6_addThreat 56 = .ok (.bipush (-14), 2) := by decide +kernel
theorem dX6_addThreat_58 : decode cX6_addThreat 58 = .ok (.ireturn, 1) := by decide +kernel
theorem dX6_addThreat_59 : decode cX6_addThreat 59 = .ok (.aload_n 0, 1) := by decide +kernel
theorem dX6_addThreat_60 : decode cX6_addThreat 60 = .ok (.getfield 28, 3) := by decide +kernel
theorem dX6_addThreat_63 : decode cX6_addThreat 63 = .ok (.aload_n 0, 1) := by decide +kernel
theorem dX6_addThreat_64 : decode cX6_addThreat 64 = .ok (.getfield 119, 3) := by decide +kernel
theorem dX6_addThreat_67 : decode cX6_addThreat 67 = .ok (.iload_n 1, 1) := by decide +kernel
theorem dX6_addThreat_68 : decode cX6_addThreat 68 = .ok (.iastore, 1) := by decide +kernel
theorem dX6_addThreat_69 : decode cX6_addThreat 69 = .ok (.aload_n 0, 1) := by decide +kernel
theorem dX6_addThreat_70 : decode cX6_addThreat 70 = .ok (.getfield 31, 3) := by decide +kernel
theorem dX6_addThreat_73 : decode cX6_addThreat 73 = .ok (.aload_n 0, 1) := by decide +kernel
theorem dX6_addThreat_74 : decode cX6_addThreat 74 = .ok (.getfield 119, 3) := by decide +kernel
theorem dX6_addThreat_77 : decode cX6_addThreat 77 = .ok (.lload_n 2, 1) := by decide +kernel
theorem dX6_addThreat_78 : decode cX6_addThreat 78 = .ok (.lastore, 1) := by decide +kernel
theorem dX6_addThreat_79 : decode cX6_addThreat 79 = .ok (.aload_n 0, 1) := by decide +kernel
theorem dX6_addThreat_80 : decode cX6_addThreat 80 = .ok (.dup, 1) := by decide +kernel
theorem dX6_addThreat_81 : decode cX6_addThreat 81 = .ok (.getfield 119, 3) := by decide +kernel
theorem dX6_addThreat_84 : decode cX6_addThreat 84 = .ok (.iconst 1, 1) := by decide +kernel
theorem dX6_addThreat_85 : decode cX6_addThreat 85 = .ok (.iadd, 1) := by decide +kernel
theorem dX6_addThreat_86 : decode cX6_addThreat 86 = .ok (.putfield 119, 3) := by decide +kernel
theorem dX6_addThreat_89 : decode cX6_addThreat 89 = .ok (.aload_n 0, 1) := by decide +kernel
theorem dX6_addThreat_90 : decode cX6_addThreat 90 = .ok (.getfield 119, 3) := by decide +kernel
theorem dX6_addThreat_93 : decode cX6_addThreat 93 = .ok (.ireturn, 1) := by decide +kernel
theorem dX6_clearThreats_0 : decode cX6_clearThreats 0 = .ok (.aload_n 0, 1) := by decide +kernel
theorem dX6_clearThreats_1 : decode cX6_clearThreats 1 = .ok (.getfield 119, 3) := by decide +kernel
theorem dX6_clearThreats_4 : decode cX6_clearThreats 4 = .ok (.istore_n 1, 1) := by decide +kernel
theorem dX6_clearThreats_5 : decode cX6_clearThreats 5 = .ok (.aload_n 0, 1) := by decide +kernel
theorem dX6_clearThreats_6 : decode cX6_clearThreats 6 = .ok (.iconst 0, 1) := by decide +kernel
theorem dX6_clearThreats_7 : decode cX6_clearThreats 7 = .ok (.putfield 119, 3) := by decide +kernel
theorem dX6_clearThreats_10 : decode cX6_clearThreats 10 = .ok (.iload_n 1, 1) := by decide +kernel
theorem dX6_clearThreats_11 : decode cX6_clearThreats 11 = .ok (.ireturn, 1) := by decide +kernel
theorem dX6_isThreat_0 : decode cX6_isThreat 0 = .ok (.aload_n 0, 1) := by decide +kernel
theorem dX6_isThreat_1 : decode cX6_isThreat 1 = .ok (.getfield 28, 3) := by decide +kernel
theorem dX6_isThreat_4 : decode cX6_isThreat 4 = .ok (.iload_n 1, 1) := by decide +kernel
theorem dX6_isThreat_5 : decode cX6_isThreat 5 = .ok (.iaload, 1) := by decide +kernel
theorem dX6_isThreat_6 : decode cX6_isThreat 6 = .ok (.iload_n 2, 1) := by decide +kernel
theorem dX6_isThreat_7 : decode cX6_isThreat 7 = .ok (.if_icmp .ne 26, 3) := by decide +kernel
theorem dX6_isThreat_10 : decode cX6_isThreat 10 = .ok (.aload_n 0, 1) := by decide +kernel
theorem dX6_isThreat_11 : decode cX6_isThreat 11 = .ok (.getfield 31, 3) := by decide +kernel
theorem dX6_isThreat_14 : decode cX6_isThreat 14 = .ok (.iload_n 1, 1) := by decide +kernel
theorem dX6_isThreat_15 : decode cX6_isThreat 15 = .ok (.laload, 1) := by decide +kernel
theorem dX6_isThreat_16 : decode cX6_isThreat 16 = .ok (.aload_n 0, 1) := by decide +kernel
theorem dX6_isThreat_17 : decode cX6_isThreat 17 = .ok (.iconst 1, 1) := by decide +kernel
theorem dX6_isThreat_18 : decode cX6_isThreat 18 = .ok (.iload_n 2, 1) := by decide +kernel
theorem dX6_isThreat_19 : decode cX6_isThreat 19 = .ok (.isub, 1) := by decide +kernel
theorem dX6_isThreat_20 : decode cX6_isThreat 20 = .ok (.invokevirtual 139, 3) := by decide +kernel
theorem dX6_isThreat_23 : decode cX6_isThreat 23 = .ok (.land, 1) := by decide +kernel
theorem dX6_isThreat_24 : decode cX6_isThreat 24 = .ok (.lconst 0, 1) := by decide +kernel
theorem dX6_isThreat_25 : decode cX6_isThreat 25 = .ok (.lcmp, 1) := by decide +kernel
theorem dX6_isThreat_26 : decode cX6_isThreat 26 = .ok (.ifCond .ne 7, 3) := by decide +kernel
theorem dX6_isThreat_29 : decode cX6_isThreat 29 = .ok (.iconst 1, 1) := by decide +kernel
theorem dX6_isThreat_30 : decode cX6_isThreat 30 = .ok (.goto 4, 3) := by decide +kernel
theorem dX6_isThreat_33 : decode cX6_isThreat 33 = .ok (.iconst 0, 1) := by decide +kernel
theorem dX6_isThreat_34 : decode cX6_isThreat 34 = .ok (.ireturn, 1) := by decide +kernel
theorem dX6_threatsOf_0 : decode cX6_threatsOf 0 = .ok (.iconst 0, 1) := by decide +kernel
theorem dX6_threatsOf_1 : decode cX6_threatsOf 1 = .ok (.istore_n 2, 1) := by decide +kernel
theorem dX6_threatsOf_2 : decode cX6_threatsOf 2 = .ok (.iconst 0, 1) := by decide +kernel
theorem dX6_threatsOf_3 : decode cX6_threatsOf 3 = .ok (.istore_n 3, 1) := by decide +kernel
theorem dX6_threatsOf_4 : decode cX6_threatsOf 4 = .ok (.iload_n 3, 1) := by decide +kernel
theorem dX6_threatsOf_5 : decode cX6_threatsOf 5 = .ok (.aload_n 0, 1) := by decide +kernel
theorem dX6_threatsOf_6 : decode cX6_threatsOf 6 = .ok (.getfield 119, 3) := by decide +kernel
theorem dX6_threatsOf_9 : decode cX6_threatsOf 9 = .ok (.if_icmp .ge 26, 3) := by decide +kernel
theorem dX6_threatsOf_12 : decode cX6_threatsOf 12 = .ok (.iload_n 2, 1) := by decide +kernel
theorem dX6_threatsOf_13 : decode cX6_threatsOf 13 = .ok (.aload_n 0, 1) := by decide +kernel
theorem dX6_threatsOf_14 : decode cX6_threatsOf 14 = .ok (.iload_n 3, 1) := by decide +kernel
theorem dX6_threatsOf_15 : decode cX6_threatsOf 15 = .ok (.iload_n 1, 1) := by decide +kernel
theorem dX6_threatsOf_16 : decode cX6_threatsOf 16 = .ok (.invokevirtual 238, 3) := by decide +kernel
theorem dX6_threatsOf_19 : decode cX6_threatsOf 19 = .ok (.ifCond .eq 7, 3) := by decide +kernel
theorem dX6_threatsOf_22 : decode cX6_threatsOf 22 = .ok (.iconst 1, 1) := by decide +kernel
theorem dX6_threatsOf_23 : decode cX6_threatsOf 23 = .ok (.goto 4, 3) := by decide +kernel
theorem dX6_threatsOf_26 : decode cX6_threatsOf 26 = .ok (.iconst 0, 1) := by decide +kernel
theorem dX6_threatsOf_27 : decode cX6_threatsOf 27 = .ok (.iadd, 1) := by decide +kernel
theorem dX6_threatsOf_28 : decode cX6_threatsOf 28 = .ok (.istore_n 2, 1) := by decide +kernel
theorem dX6_threatsOf_29 : decode cX6_threatsOf 29 = .ok (.iinc 3 1, 3) := by decide +kernel
theorem dX6_threatsOf_32 : decode cX6_threatsOf 32 = .ok (.goto (-28), 3) := by decide +kernel
theorem dX6_threatsOf_35 : decode cX6_threatsOf 35 = .ok (.iload_n 2, 1) := by decide +kernel
theorem dX6_threatsOf_36 : decode cX6_threatsOf 36 = .ok (.ireturn, 1) := by decide +kernel
theorem dX6_threats_0 : decode cX6_threats 0 = .ok (.iload_n 1, 1) := by decide +kernel
theorem dX6_threats_1 : decode cX6_threats 1 = .ok (.invokestatic 136, 3) := by decide +kernel
theorem dX6_threats_4 : decode cX6_threats 4 = .ok (.ifCond .eq 11, 3) := by decide +kernel
theorem dX6_threats_7 : decode cX6_threats 7 = .ok (.aload_n 0, 1) := by decide +kernel
theorem dX6_threats_8 : decode cX6_threats 8 = .ok (.iload_n 1, 1) := by decide +kernel
theorem dX6_threats_9 : decode cX6_threats 9 = .ok (.invokevirtual 242, 3) := by decide +kernel
theorem dX6_threats_12 : decode cX6_threats 12 = .ok (.goto 5, 3) := by decide +kernel
theorem dX6_threats_15 : decode cX6_threats 15 = .ok (.bipush (-11), 2) := by decide +kernel
theorem dX6_threats_17 : decode cX6_threats 17 = .ok (.ireturn, 1) := by decide +kernel
theorem dX6_neededOf_0 : decode cX6_neededOf 0 = .ok (.aload_n 0, 1) := by decide +kernel
theorem dX6_neededOf_1 : decode cX6_neededOf 1 = .ok (.invokevirtual 126, 3) := by decide +kernel
theorem dX6_neededOf_4 : decode cX6_neededOf 4 = .ok (.lstore_n 2, 1) := by decide +kernel
theorem dX6_neededOf_5 : decode cX6_neededOf 5 = .ok (.iconst 0, 1) := by decide +kernel
theorem dX6_neededOf_6 : decode cX6_neededOf 6 = .ok (.istore 4, 2) := by decide +kernel
theorem dX6_neededOf_8 : decode cX6_neededOf 8 = .ok (.iload 4, 2) := by decide +kernel
theorem dX6_neededOf_10 : decode cX6_neededOf 10 = .ok (.aload_n 0, 1) := by decide +kernel
theorem dX6_neededOf_11 : decode cX6_neededOf 11 = .ok (.getfield 119, 3) := by decide +kernel
theorem dX6_neededOf_14 : decode cX6_neededOf 14 = .ok (.if_icmp .ge 35, 3) := by decide +kernel
theorem dX6_neededOf_17 : decode cX6_neededOf 17 = .ok (.lload_n 2, 1) := by decide +kernel
theorem dX6_neededOf_18 : decode cX6_neededOf 18 = .ok (.aload_n 0, 1) := by decide +kernel
theorem dX6_neededOf_19 : decode cX6_neededOf 19 = .ok (.iload 4, 2) := by decide +kernel
theorem dX6_neededOf_21 : decode cX6_neededOf 21 = .ok (.iload_n 1, 1) := by decide +kernel
theorem dX6_neededOf_22 : decode cX6_neededOf 22 = .ok (.invokevirtual 238, 3) := by decide +kernel
theorem dX6_neededOf_25 : decode cX6_neededOf 25 = .ok (.ifCond .eq 13, 3) := by decide +kernel
theorem dX6_neededOf_28 : decode cX6_neededOf 28 = .ok (.aload_n 0, 1) := by decide +kernel
theorem dX6_neededOf_29 : decode cX6_neededOf 29 = .ok (.getfield 31, 3) := by decide +kernel
theorem dX6_neededOf_32 : decode cX6_neededOf 32 = .ok (.iload 4, 2) := by decide +kernel
theorem dX6_neededOf_34 : decode cX6_neededOf 34 = .ok (.laload, 1) := by decide +kernel
theorem dX6_neededOf_35 : decode cX6_neededOf 35 = .ok (.goto 6, 3) := by decide +kernel
theorem dX6_neededOf_38 : decode cX6_neededOf 38 = .ok (.ldc2_w 80, 3) := by decide +kernel
theorem dX6_neededOf_41 : decode cX6_neededOf 41 = .ok (.land, 1) := by decide +kernel
theorem dX6_neededOf_42 : decode cX6_neededOf 42 = .ok (.lstore_n 2, 1) := by decide +kernel
theorem dX6_neededOf_43 : decode cX6_neededOf 43 = .ok (.iinc 4 1, 3) := by decide +kernel
theorem dX6_neededOf_46 : decode cX6_neededOf 46 = .ok (.goto (-38), 3) := by decide +kernel
theorem dX6_neededOf_49 : decode cX6_neededOf 49 = .ok (.aload_n 0, 1) := by decide +kernel
theorem dX6_neededOf_50 : decode cX6_neededOf 50 = .ok (.iload_n 1, 1) := by decide +kernel
theorem dX6_neededOf_51 : decode cX6_neededOf 51 = .ok (.invokevirtual 242, 3) := by decide +kernel
theorem dX6_neededOf_54 : decode cX6_neededOf 54 = .ok (.ifCond .ne 9, 3) := by decide +kernel
theorem dX6_neededOf_57 : decode cX6_neededOf 57 = .ok (.ldc2_w 159, 3) := by decide +kernel
theorem dX6_neededOf_60 : decode cX6_neededOf 60 = .ok (.goto 4, 3) := by decide +kernel
theorem dX6_neededOf_63 : decode cX6_neededOf 63 = .ok (.lload_n 2, 1) := by decide +kernel
theorem dX6_neededOf_64 : decode cX6_neededOf 64 = .ok (.lreturn, 1) := by decide +kernel
theorem dX6_needed_0 : decode cX6_needed 0 = .ok (.iload_n 1, 1) := by decide +kernel
theorem dX6_needed_1 : decode cX6_needed 1 = .ok (.invokestatic 136, 3) := by decide +kernel
theorem dX6_needed_4 : decode cX6_needed 4 = .ok (.ifCond .eq 11, 3) := by decide +kernel
theorem dX6_needed_7 : decode cX6_needed 7 = .ok (.aload_n 0, 1) := by decide +kernel
theorem dX6_needed_8 : decode cX6_needed 8 = .ok (.iload_n 1, 1) := by decide +kernel
theorem dX6_needed_9 : decode cX6_needed 9 = .ok (.invokevirtual 245, 3) := by decide +kernel
theorem dX6_needed_12 : decode cX6_needed 12 = .ok (.goto 6, 3) := by decide +kernel
theorem dX6_needed_15 : decode cX6_needed 15 = .ok (.ldc2_w 142, 3) := by decide +kernel
theorem dX6_needed_18 : decode cX6_needed 18 = .ok (.lreturn, 1) := by decide +kernel
theorem dX6_nth_0 : decode cX6_nth 0 = .ok (.lload_n 0, 1) := by decide +kernel
theorem dX6_nth_1 : decode cX6_nth 1 = .ok (.lstore_n 3, 1) := by decide +kernel
theorem dX6_nth_2 : decode cX6_nth 2 = .ok (.iconst 0, 1) := by decide +kernel
theorem dX6_nth_3 : decode cX6_nth 3 = .ok (.istore 5, 2) := by decide +kernel
theorem dX6_nth_5 : decode cX6_nth 5 = .ok (.iload 5, 2) := by decide +kernel
theorem dX6_nth_7 : decode cX6_nth 7 = .ok (.iload_n 2, 1) := by decide +kernel
theorem dX6_nth_8 : decode cX6_nth 8 = .ok (.if_icmp .ge 15, 3) := by decide +kernel
theorem dX6_nth_11 : decode cX6_nth 11 = .ok (.lload_n 3, 1) := by decide +kernel
theorem dX6_nth_12 : decode cX6_nth 12 = .ok (.lload_n 3, 1) := by decide +kernel
theorem dX6_nth_13 : decode cX6_nth 13 = .ok (.lconst 1, 1) := by decide +kernel
theorem dX6_nth_14 : decode cX6_nth 14 = .ok (.lsub, 1) := by decide +kernel
theorem dX6_nth_15 : decode cX6_nth 15 = .ok (.land, 1) := by decide +kernel
theorem dX6_nth_16 : decode cX6_nth 16 = .ok (.lstore_n 3, 1) := by decide +kernel
theorem dX6_nth_17 : decode cX6_nth 17 = .ok (.iinc 5 1, 3) := by decide +kernel
theorem dX6_nth_20 : decode cX6_nth 20 = .ok (.goto (-15), 3) := by decide +kernel
theorem dX6_nth_23 : decode cX6_nth 23 = .ok (.lload_n 3, 1) := by decide +kernel
theorem dX6_nth_24 : decode cX6_nth 24 = .ok (.invokestatic 144, 3) := by decide +kernel
theorem dX6_nth_27 : decode cX6_nth 27 = .ok (.ireturn, 1) := by decide +kernel
theorem dX6_randomGames_0 : decode cX6_randomGames 0 = .ok (.iload_n 1, 1) := by decide +kernel
theorem dX6_randomGames_1 : decode cX6_randomGames 1 = .ok (.ifCond .lt 13, 3) := by decide +kernel
theorem dX6_randomGames_4 : decode cX6_randomGames 4 = .ok (.iload_n 2, 1) := by decide +kernel
theorem dX6_randomGames_5 : decode cX6_randomGames 5 = .ok (.iconst 1, 1) := by decide +kernel
theorem dX6_randomGames_6 : decode cX6_randomGames 6 = .ok (.bipush 50, 2) := by decide +kernel
theorem dX6_randomGames_8 : decode cX6_randomGames 8 = .ok (.invokestatic 64, 3) := by decide +kernel
theorem dX6_randomGames_11 : decode cX6_randomGames 11 = .ok (.ifCond .ne 6, 3) := by decide +kernel
theorem dX6_randomGames_14 : decode cX6_randomGames 14 = .ok (.bipush (-12), 2) := by decide +kernel
theorem dX6_randomGames_16 : decode cX6_randomGames 16 = .ok (.ireturn, 1) := by decide +kernel
theorem dX6_randomGames_17 : decode cX6_randomGames 17 = .ok (.iload_n 1, 1) := by decide +kernel
theorem dX6_randomGames_18 : decode cX6_randomGames 18 = .ok (.i2l, 1) := by decide +kernel
theorem dX6_randomGames_19 : decode cX6_randomGames 19 = .ok (.lstore_n 3, 1) := by decide +kernel
theorem dX6_randomGames_20 : decode cX6_randomGames 20 = .ok (.iconst 0, 1) := by decide +kernel
theorem dX6_randomGames_21 : decode cX6_randomGames 21 = .ok (.istore 5, 2) := by decide +kernel
theorem dX6_randomGames_23 : decode cX6_randomGames 23 = .ok (.iconst 0, 1) := by decide +kernel
theorem dX6_randomGames_24 : decode cX6_randomGames 24 = .ok (.istore 6, 2) := by decide +kernel
theorem dX6_randomGames_26 : decode cX6_randomGames 26 = .ok (.iload 6, 2) := by decide +kernel
theorem dX6_randomGames_28 : decode cX6_randomGames 28 = .ok (.iload_n 2, 1) := by decide +kernel
theorem dX6_randomGames_29 : decode cX6_randomGames 29 = .ok (.if_icmp .ge 127, 3) := by decide +kernel
theorem dX6_randomGames_32 : decode cX6_randomGames 32 = .ok (.aload_n 0, 1) := by decide +kernel
theorem dX6_randomGames_33 : decode cX6_randomGames 33 = .ok (.invokevirtual 126, 3) := by decide +kernel
theorem dX6_randomGames_36 : decode cX6_randomGames 36 = .ok (.lstore 7, 2) := by decide +kernel
theorem dX6_randomGames_38 : decode cX6_randomGames 38 = .ok (.aload_n 0, 1) := by decide +kernel
theorem dX6_randomGames_39 : decode cX6_randomGames 39 = .ok (.getfield 76, 3) := by decide +kernel
theorem dX6_randomGames_42 : decode cX6_randomGames 42 = .ok (.lstore 9, 2) := by decide +kernel
theorem dX6_randomGames_44 : decode cX6_randomGames 44 = .ok (.aload_n 0, 1) := by decide +kernel
theorem dX6_randomGames_45 : decode cX6_randomGames 45 = .ok (.getfield 109, 3) := by decide +kernel
theorem dX6_randomGames_48 : decode cX6_randomGames 48 = .ok (.iconst 2, 1) := by decide +kernel
theorem dX6_randomGames_49 : decode cX6_randomGames 49 = .ok (.irem, 1) := by decide +kernel
theorem dX6_randomGames_50 : decode cX6_randomGames 50 = .ok (.istore 11, 2) := by decide +kernel
theorem dX6_randomGames_52 : decode cX6_randomGames 52 = .ok (.lload 7, 2) := by decide +kernel
theorem dX6_randomGames_54 : decode cX6_randomGames 54 = .ok (.lconst 0, 1) := by decide +kernel
theorem dX6_randomGames_55 : decode cX6_randomGames 55 = .ok (.lcmp, 1) := by decide +kernel
theorem dX6_randomGames_56 : decode cX6_randomGames 56 = .ok (.ifCond .eq 74, 3) := by decide +kernel
theorem dX6_randomGames_59 : decode cX6_randomGames 59 = .ok (.lload_n 3, 1) := by decide +kernel
theorem dX6_randomGames_60 : decode cX6_randomGames 60 = .ok (.ldc2_w 248, 3) := by decide +kernel
theorem dX6_randomGames_63 : decode cX6_randomGames 63 = .ok (.lmul, 1) := by decide +kernel
theorem dX6_randomGames_64 : decode cX6_randomGames 64 = .ok (.ldc2_w 250, 3) := by decide +kernel
theorem dX6_randomGames_67 : decode cX6_randomGames 67 = .ok (.ladd, 1) := by decide +kernel
theorem dX6_randomGames_68 : decode cX6_randomGames 68 = .ok (.ldc2_w 252, 3) := by decide +kernel
theorem dX6_randomGames_71 : decode cX6_randomGames 71 = .ok (.lrem, 1) := by decide +kernel
theorem dX6_randomGames_72 : decode cX6_randomGames 72 = .ok (.lstore_n 3, 1) := by decide +kernel
theorem dX6_randomGames_73 : decode cX6_randomGames 73 = .ok (.lconst 1, 1) := by decide +kernel
theorem dX6_randomGames_74 : decode cX6_randomGames 74 = .ok (.lload 7, 2) := by decide +kernel
theorem dX6_randomGames_76 : decode cX6_randomGames 76 = .ok (.lload_n 3, 1) := by decide +kernel
theorem dX6_randomGames_77 : decode cX6_randomGames 77 = .ok (.ldc2_w 254, 3) := by decide +kernel
theorem dX6_randomGames_80 : decode cX6_randomGames 80 = .ok (.ldiv, 1) := by decide +kernel
theorem dX6_randomGames_81 : decode cX6_randomGames 81 = .ok (.l2i, 1) := by decide +kernel
theorem dX6_randomGames_82 : decode cX6_randomGames 82 = .ok (.lload 7, 2) := by decide +kernel
theorem dX6_randomGames_84 : decode cX6_randomGames 84 = .ok (.invokestatic 164, 3) := by decide +kernel
theorem dX6_randomGames_87 : decode cX6_randomGames 87 = .ok (.irem, 1) := by decide +kernel
theorem dX6_randomGames_88 : decode cX6_randomGames 88 = .ok (.invokestatic 256, 3) := by decide +kernel
theorem dX6_randomGames_91 : decode cX6_randomGames 91 = .ok (.lshl, 1) := by decide +kernel
theorem dX6_randomGames_92 : decode cX6_randomGames 92 = .ok (.lstore 12, 2) := by decide +kernel
theorem dX6_randomGames_94 : decode cX6_randomGames 94 = .ok (.lload 7, 2) := by decide +kernel
theorem dX6_randomGames_96 : decode cX6_randomGames 96 = .ok (.lload 12, 2) := by decide +kernel
theorem dX6_randomGames_98 : decode cX6_randomGames 98 = .ok (.ldc2_w 80, 3) := by decide +kernel
theorem dX6_randomGames_101 : decode cX6_randomGames 101 = .ok (.lxor, 1) := by decide +kernel
theorem dX6_randomGames_102 : decode cX6_randomGames 102 = .ok (.land, 1) := by decide +kernel
theorem dX6_randomGames_103 : decode cX6_randomGames 103 = .ok (.lstore 7, 2) := by decide +kernel
theorem dX6_randomGames_105 : decode cX6_randomGames 105 = .ok (.lload 9, 2) := by decide +kernel
theorem dX6_randomGames_107 : decode cX6_randomGames 107 = .ok (.iload 11, 2) := by decide +kernel
theorem dX6_randomGames_109 : decode cX6_randomGames 109 = .ok (.ifCond .ne 8, 3) := by decide +kernel
theorem dX6_randomGames_112 : decode cX6_randomGames 112 = .ok (.lload 12, 2) := by decide +kernel
theorem dX6_randomGames_114 : decode cX6_randomGames 114 = .ok (.goto 4, 3) := by decide +kernel
theorem dX6_randomGames_117 : decode cX6_randomGames 117 = .ok (.lconst 0, 1) := by decide +kernel
theorem dX6_randomGames_118 : decode cX6_randomGames 118 = .ok (.lor, 1) := by decide +kernel
theorem dX6_randomGames_119 : decode cX6_randomGames 119 = .ok (.lstore 9, 2) := by decide +kernel
theorem dX6_randomGames_121 : decode cX6_randomGames 121 = .ok (.iconst 1, 1) := by decide +kernel
theorem dX6_randomGames_122 : decode cX6_randomGames 122 = .ok (.iload 11, 2) := by decide +kernel
theorem dX6_randomGames_124 : decode cX6_randomGames 124 = .ok (.isub, 1) := by decide +kernel
theorem dX6_randomGames_125 : decode cX6_randomGames 125 = .ok (.istore 11, 2) := by decide +kernel
theorem dX6_randomGames_127 : decode cX6_randomGames 127 = .ok (.goto (-75), 3) := by decide +kernel
theorem dX6_randomGames_130 : decode cX6_randomGames 130 = .ok (.iload 5, 2) := by decide +kernel
theorem dX6_randomGames_132 : decode cX6_randomGames 132 = .ok (.aload_n 0, 1) := by decide +kernel
theorem dX6_randomGames_133 : decode cX6_randomGames 133 = .ok (.iconst 0, 1) := by decide +kernel
theorem dX6_randomGames_134 : decode cX6_randomGames 134 = .ok (.lload 9, 2) := by decide +kernel
theorem dX6_randomGames_136 : decode cX6_randomGames 136 = .ok (.invokevirtual 101, 3) := by decide +kernel
theorem dX6_randomGames_139 : decode cX6_randomGames 139 = .ok (.ifCond .eq 7, 3) := by decide +kernel
theorem dX6_randomGames_142 : decode cX6_randomGames 142 = .ok (.iconst 1, 1) := by decide +kernel
theorem dX6_randomGames_143 : decode cX6_randomGames 143 = .ok (.goto 4, 3) := by decide +kernel
theorem dX6_randomGames_146 : decode cX6_randomGames 146 = .ok (.iconst 0, 1) := by decide +kernel
theorem dX6_randomGames_147 : decode cX6_randomGames 147 = .ok (.iadd, 1) := by decide +kernel
theorem dX6_randomGames_148 : decode cX6_randomGames 148 = .ok (.istore 5, 2) := by decide +kernel
theorem dX6_randomGames_150 : decode cX6_randomGames 150 = .ok (.iinc 6 1, 3) := by decide +kernel
theorem dX6_randomGames_153 : decode cX6_randomGames 153 = .ok (.goto (-127), 3) := by decide +kernel
theorem dX6_randomGames_156 : decode cX6_randomGames 156 = .ok (.iload 5, 2) := by decide +kernel
theorem dX6_randomGames_158 : decode cX6_randomGames 158 = .ok (.ireturn, 1) := by decide +kernel
theorem dX6_append_0 : decode cX6_append 0 = .ok (.iload_n 1, 1) := by decide +kernel
theorem dX6_append_1 : decode cX6_append 1 = .ok (.iconst 0, 1) := by decide +kernel
theorem dX6_append_2 : decode cX6_append 2 = .ok (.bipush 127, 2) := by decide +kernel
theorem dX6_append_4 : decode cX6_append 4 = .ok (.invokestatic 64, 3) := by decide +kernel
theorem dX6_append_7 : decode cX6_append 7 = .ok (.ifCond .ne 6, 3) := by decide +kernel
theorem dX6_append_10 : decode cX6_append 10 = .ok (.bipush (-12), 2) := by decide +kernel
theorem dX6_append_12 : decode cX6_append 12 = .ok (.ireturn, 1) := by decide +kernel
theorem dX6_append_13 : decode cX6_append 13 = .ok (.aload_n 0, 1) := by decide +kernel
theorem dX6_append_14 : decode cX6_append 14 = .ok (.getfield 260, 3) := by decide +kernel
theorem dX6_append_17 : decode cX6_append 17 = .ok (.bipush 100, 2) := by decide +kernel
theorem dX6_append_19 : decode cX6_append 19 = .ok (.if_icmp .ne 6, 3) := by decide +kernel
theorem dX6_append_22 : decode cX6_append 22 = .ok (.bipush (-14), 2) := by decide +kernel
theorem dX6_append_24 : decode cX6_append 24 = .ok (.ireturn, 1) := by decide +kernel
theorem dX6_append_25 : decode cX6_append 25 = .ok (.aload_n 0, 1) := by decide +kernel
theorem dX6_append_26 : decode cX6_append 26 = .ok (.getfield 34, 3) := by decide +kernel
theorem dX6_append_29 : decode cX6_append 29 = .ok (.aload_n 0, 1) := by decide +kernel
theorem dX6_append_30 : decode cX6_append 30 = .ok (.getfield 260, 3) := by decide +kernel
theorem dX6_append_33 : decode cX6_append 33 = .ok (.iload_n 1, 1) := by decide +kernel
theorem dX6_append_34 : decode cX6_append 34 = .ok (.iastore, 1) := by decide +kernel
theorem dX6_append_35 : decode cX6_append 35 = .ok (.aload_n 0, 1) := by decide +kernel
theorem dX6_append_36 : decode cX6_append 36 = .ok (.dup, 1) := by decide +kernel
theorem dX6_append_37 : decode cX6_append 37 = .ok (.getfield 260, 3) := by decide +kernel
theorem dX6_append_40 : decode cX6_append 40 = .ok (.iconst 1, 1) := by decide +kernel
theorem dX6_append_41 : decode cX6_append 41 = .ok (.iadd, 1) := by decide +kernel
theorem dX6_append_42 : decode cX6_append 42 = .ok (.putfield 260, 3) := by decide +kernel
theorem dX6_append_45 : decode cX6_append 45 = .ok (.aload_n 0, 1) := by decide +kernel
theorem dX6_append_46 : decode cX6_append 46 = .ok (.getfield 260, 3) := by decide +kernel
theorem dX6_append_49 : decode cX6_append 49 = .ok (.ireturn, 1) := by decide +kernel
theorem dX6_clearText_0 : decode cX6_clearText 0 = .ok (.aload_n 0, 1) := by decide +kernel
theorem dX6_clearText_1 : decode cX6_clearText 1 = .ok (.getfield 260, 3) := by decide +kernel
theorem dX6_clearText_4 : decode cX6_clearText 4 = .ok (.istore_n 1, 1) := by decide +kernel
theorem dX6_clearText_5 : decode cX6_clearText 5 = .ok (.aload_n 0, 1) := by decide +kernel
theorem dX6_clearText_6 : decode cX6_clearText 6 = .ok (.iconst 0, 1) := by decide +kernel
theorem dX6_clearText_7 : decode cX6_clearText 7 = .ok (.putfield 260, 3) := by decide +kernel
theorem dX6_clearText_10 : decode cX6_clearText 10 = .ok (.iload_n 1, 1) := by decide +kernel
theorem dX6_clearText_11 : decode cX6_clearText 11 = .ok (.ireturn, 1) := by decide +kernel
theorem dX6_faultOf_0 : decode cX6_faultOf 0 = .ok (.aload_n 0, 1) := by decide +kernel
theorem dX6_faultOf_1 : decode cX6_faultOf 1 = .ok (.iconst 0, 1) := by decide +kernel
theorem dX6_faultOf_2 : decode cX6_faultOf 2 = .ok (.putfield 263, 3) := by decide +kernel
theorem dX6_faultOf_5 : decode cX6_faultOf 5 = .ok (.aload_n 0, 1) := by decide +kernel
theorem dX6_faultOf_6 : decode cX6_faultOf 6 = .ok (.lconst 0, 1) := by decide +kernel
theorem dX6_faultOf_7 : decode cX6_faultOf 7 = .ok (.putfield 76, 3) := by decide +kernel
theorem dX6_faultOf_10 : decode cX6_faultOf 10 = .ok (.aload_n 0, 1) := by decide +kernel
theorem dX6_faultOf_11 : decode cX6_faultOf 11 = .ok (.lconst 0, 1) := by decide +kernel
theorem dX6_faultOf_12 : decode cX6_faultOf 12 = .ok (.putfield 82, 3) := by decide +kernel
theorem dX6_faultOf_15 : decode cX6_faultOf 15 = .ok (.iconst 0, 1) := by decide +kernel
theorem dX6_faultOf_16 : decode cX6_faultOf 16 = .ok (.istore_n 1, 1) := by decide +kernel
theorem dX6_faultOf_17 : decode cX6_faultOf 17 = .ok (.iconst 0, 1) := by decide +kernel
theorem dX6_faultOf_18 : decode cX6_faultOf 18 = .ok (.istore_n 2, 1) := by decide +kernel
theorem dX6_faultOf_19 : decode cX6_faultOf 19 = .ok (.iload_n 1, 1) := by decide +kernel
theorem dX6_faultOf_20 : decode cX6_faultOf 20 = .ok (.aload_n 0, 1) := by decide +kernel
theorem dX6_faultOf_21 : decode cX6_faultOf 21 = .ok (.getfield 260, 3) := by decide +kernel
theorem dX6_faultOf_24 : decode cX6_faultOf 24 = .ok (.if_icmp .ge 259, 3) := by decide +kernel
theorem dX6_faultOf_27 : decode cX6_faultOf 27 = .ok (.aload_n 0, 1) := by decide +kernel
theorem dX6_faultOf_28 : decode cX6_faultOf 28 = .ok (.getfield 34, 3) := by decide +kernel
theorem dX6_faultOf_31 : decode cX6_faultOf 31 = .ok (.iload_n 1, 1) := by decide +kernel
theorem dX6_faultOf_32 : decode cX6_faultOf 32 = .ok (.iaload, 1) := by decide +kernel
theorem dX6_faultOf_33 : decode cX6_faultOf 33 = .ok (.istore_n 3, 1) := by decide +kernel
theorem dX6_faultOf_34 : decode cX6_faultOf 34 = .ok (.aload_n 0, 1) := by decide +kernel
theorem dX6_faultOf_35 : decode cX6_faultOf 35 = .ok (.invokevirtual 129, 3) := by decide +kernel
theorem dX6_faultOf_38 : decode cX6_faultOf 38 = .ok (.bipush (-15), 2) := by decide +kernel
theorem dX6_faultOf_40 : decode cX6_faultOf 40 = .ok (.if_icmp .eq 5, 3) := by decide +kernel
theorem dX6_faultOf_43 : decode cX6_faultOf 43 = .ok (.iload_n 1, 1) := by decide +kernel
theorem dX6_faultOf_44 : decode cX6_faultOf 44 = .ok (.ireturn, 1) := by decide +kernel
theorem dX6_faultOf_45 : decode cX6_faultOf 45 = .ok (.bipush (-16), 2) := by decide +kernel
theorem dX6_faultOf_47 : decode cX6_faultOf 47 = .ok (.istore 4, 2) := by decide +kernel
theorem dX6_faultOf_49 : decode cX6_faultOf 49 = .ok (.iload_n 3, 1) := by decide +kernel
theorem dX6_faultOf_50 : decode cX6_faultOf 50 = .ok (.bipush 83, 2) := by decide +kernel
theorem dX6_faultOf_52 : decode cX6_faultOf 52 = .ok (.if_icmp .ne 48, 3) := by decide +kernel
theorem dX6_faultOf_55 : decode cX6_faultOf 55 = .ok (.aload_n 0, 1) := by decide +kernel
theorem dX6_faultOf_56 : decode cX6_faultOf 56 = .ok (.getfield 263, 3) := by decide +kernel
theorem dX6_faultOf_59 : decode cX6_faultOf 59 = .ok (.iconst 1, 1) := by decide +kernel
theorem dX6_faultOf_60 : decode cX6_faultOf 60 = .ok (.if_icmp .eq 5, 3) := by decide +kernel
theorem dX6_faultOf_63 : decode cX6_faultOf 63 = .ok (.iload_n 1, 1) := by decide +kernel
theorem dX6_faultOf_64 : decode cX6_faultOf 64 = .ok (.ireturn, 1) := by decide +kernel
theorem dX6_faultOf_65 : decode cX6_faultOf 65 = .ok (.aload_n 0, 1) := by decide +kernel
theorem dX6_faultOf_66 : decode cX6_faultOf 66 = .ok (.lconst 0, 1) := by decide +kernel
theorem dX6_faultOf_67 : decode cX6_faultOf 67 = .ok (.putfield 76, 3) := by decide +kernel
theorem dX6_faultOf_70 : decode cX6_faultOf 70 = .ok (.aload_n 0, 1) := by decide +kernel
theorem dX6_faultOf_71 : decode cX6_faultOf 71 = .ok (.lconst 1, 1) := by decide +kernel
theorem dX6_faultOf_72 : decode cX6_faultOf 72 = .ok (.iload_n 2, 1) := by decide +kernel
theorem dX6_faultOf_73 : decode cX6_faultOf 73 = .ok (.aload_n 0, 1) := by decide +kernel
theorem dX6_faultOf_74 : decode cX6_faultOf 74 = .ok (.getfield 7, 3) := by decide +kernel
theorem dX6_faultOf_77 : decode cX6_faultOf 77 = .ok (.irem, 1) := by decide +kernel
theorem dX6_faultOf_78 : decode cX6_faultOf 78 = .ok (.aload_n 0, 1) := by decide +kernel
theorem dX6_faultOf_79 : decode cX6_faultOf 79 = .ok (.getfield 7, 3) := by decide +kernel
theorem dX6_faultOf_82 : decode cX6_faultOf 82 = .ok (.imul, 1) := by decide +kernel
theorem dX6_faultOf_83 : decode cX6_faultOf 83 = .ok (.iload_n 2, 1) := by decide +kernel
theorem dX6_faultOf_84 : decode cX6_faultOf 84 = .ok (.aload_n 0, 1) := by decide +kernel
theorem dX6_faultOf_85 : decode cX6_faultOf 85 = .ok (.getfield 7, 3) := by decide +kernel
theorem dX6_faultOf_88 : decode cX6_faultOf 88 = .ok (.idiv, 1) := by decide +kernel
theorem dX6_faultOf_89 : decode cX6_faultOf 89 = .ok (.iadd, 1) := by decide +kernel
theorem dX6_faultOf_90 : decode cX6_faultOf 90 = .ok (.lshl, 1) := by decide +kernel
theorem dX6_faultOf_91 : decode cX6_faultOf 91 = .ok (.putfield 82, 3) := by decide +kernel
theorem dX6_faultOf_94 : decode cX6_faultOf 94 = .ok (.iinc 1 1, 3) := by decide +kernel
theorem dX6_faultOf_97 : decode cX6_faultOf 97 = .ok (.goto 162, 3) := by decide +kernel
theorem dX6_faultOf_100 : decode cX6_faultOf 100 = .ok (.iload_n 3, 1) := by decide +kernel
theorem dX6_faultOf_101 : decode cX6_faultOf 101 = .ok (.bipush 97, 2) := by decide +kernel
theorem dX6_faultOf_103 : decode cX6_faultOf 103 = .ok (.isub, 1) := by decide +kernel
theorem dX6_faultOf_104 : decode cX6_faultOf 104 = .ok (.iconst 0, 1) := by decide +kernel
theorem dX6_faultOf_105 : decode cX6_faultOf 105 = .ok (.aload_n 0, 1) := by decide +kernel
theorem dX6_faultOf_106 : decode cX6_faultOf 106 = .ok (.getfield 7, 3) := by decide +kernel
theorem dX6_faultOf_109 : decode cX6_faultOf 109 = .ok (.iconst 1, 1) := by decide +kernel
theorem dX6_faultOf_110 : decode cX6_faultOf 110 = .ok (.isub, 1) := by decide +kernel
theorem dX6_faultOf_111 : decode cX6_faultOf 111 = .ok (.invokestatic 64, 3) := by decide +kernel
theorem dX6_faultOf_114 : decode cX6_faultOf 114 = .ok (.ifCond .ne 5, 3) := by decide +kernel
theorem dX6_faultOf_117 : decode cX6_faultOf 117 = .ok (.iload_n 1, 1) := by decide +kernel
theorem dX6_faultOf_118 : decode cX6_faultOf 118 = .ok (.ireturn, 1) := by decide +kernel
theorem dX6_faultOf_119 : decode cX6_faultOf 119 = .ok (.iinc 1 1, 3) := by decide +kernel
theorem dX6_faultOf_122 : decode cX6_faultOf 122 = .ok (.iload_n 1, 1) := by decide +kernel
theorem dX6_faultOf_123 : decode cX6_faultOf 123 = .ok (.aload_n 0, 1) := by decide +kernel
theorem dX6_faultOf_124 : decode cX6_faultOf 124 = .ok (.getfield 260, 3) := by decide +kernel
theorem dX6_faultOf_127 : decode cX6_faultOf 127 = .ok (.if_icmp .eq 25, 3) := by decide +kernel
theorem dX6_faultOf_130 : decode cX6_faultOf 130 = .ok (.aload_n 0, 1) := by decide +kernel
theorem dX6_faultOf_131 : decode cX6_faultOf 131 = .ok (.getfield 34, 3) := by decide +kernel
theorem dX6_faultOf_134 : decode cX6_faultOf 134 = .ok (.iload_n 1, 1) := by decide +kernel
theorem dX6_faultOf_135 : decode cX6_faultOf 135 = .ok (.iaload, 1) := by decide +kernel
theorem dX6_faultOf_136 : decode cX6_faultOf 136 = .ok (.bipush 49, 2) := by decide +kernel
theorem dX6_faultOf_138 : decode cX6_faultOf 138 = .ok (.isub, 1) := by decide +kernel
theorem dX6_faultOf_139 : decode cX6_faultOf 139 = .ok (.iconst 0, 1) := by decide +kernel
theorem dX6_faultOf_140 : decode cX6_faultOf 140 = .ok (.aload_n 0, 1) := by decide +kernel
theorem dX6_faultOf_141 : decode cX6_faultOf 141 = .ok (.getfield 7, 3) := by decide +kernel
theorem dX6_faultOf_144 : decode cX6_faultOf 144 = .ok (.iconst 1, 1) := by decide +kernel
theorem dX6_faultOf_145 : decode cX6_faultOf 145 = .ok (.isub, 1) := by decide +kernel
theorem dX6_faultOf_146 : decode cX6_faultOf 146 = .ok (.invokestatic 64, 3) := by decide +kernel
theorem dX6_faultOf_149 : decode cX6_faultOf 149 = .ok (.ifCond .ne 5, 3) := by decide +kernel
theorem dX6_faultOf_152 : decode cX6_faultOf 152 = .ok (.iload_n 1, 1) := by decide +kernel
theorem dX6_faultOf_153 : decode cX6_faultOf 153 = .ok (.ireturn, 1) := by decide +kernel
theorem dX6_faultOf_154 : decode cX6_faultOf 154 = .ok (.aload_n 0, 1) := by decide +kernel
theorem dX6_faultOf_155 : decode cX6_faultOf 155 = .ok (.getfield 34, 3) := by decide +kernel
theorem dX6_faultOf_158 : decode cX6_faultOf 158 = .ok (.iload_n 1, 1) := by decide +kernel
theorem dX6_faultOf_159 : decode cX6_faultOf 159 = .ok (.iaload, 1) := by decide +kernel
theorem dX6_faultOf_160 : decode cX6_faultOf 160 = .ok (.bipush 49, 2) := by decide +kernel
theorem dX6_faultOf_162 : decode cX6_faultOf 162 = .ok (.isub, 1) := by decide +kernel
theorem dX6_faultOf_163 : decode cX6_faultOf 163 = .ok (.aload_n 0, 1) := by decide +kernel
theorem dX6_faultOf_164 : decode cX6_faultOf 164 = .ok (.getfield 7, 3) := by decide +kernel
theorem dX6_faultOf_167 : decode cX6_faultOf 167 = .ok (.imul, 1) := by decide +kernel
theorem dX6_faultOf_168 : decode cX6_faultOf 168 = .ok (.iload_n 3, 1) := by decide +kernel
theorem dX6_faultOf_169 : decode cX6_faultOf 169 = .ok (.iadd, 1) := by decide +kernel
theorem dX6_faultOf_170 : decode cX6_faultOf 170 = .ok (.bipush 97, 2) := by decide +kernel
theorem dX6_faultOf_172 : decode cX6_faultOf 172 = .ok (.isub, 1) := by decide +kernel
theorem dX6_faultOf_173 : decode cX6_faultOf 173 = .ok (.istore 4, 2) := by decide +kernel
theorem dX6_faultOf_175 : decode cX6_faultOf 175 = .ok (.aload_n 0, 1) := by decide +kernel
theorem dX6_faultOf_176 : decode cX6_faultOf 176 = .ok (.invokevirtual 126, 3) := by decide +kernel
theorem dX6_faultOf_179 : decode cX6_faultOf 179 = .ok (.iload 4, 2) := by decide +kernel
theorem dX6_faultOf_181 : decode cX6_faultOf 181 = .ok (.invokestatic 85, 3) := by decide +kernel
theorem dX6_faultOf_184 : decode cX6_faultOf 184 = .ok (.ifCond .ne 5, 3) := by decide +kernel
theorem dX6_faultOf_187 : decode cX6_faultOf 187 = .ok (.iload_n 1, 1) := by decide +kernel
theorem dX6_faultOf_188 : decode cX6_faultOf 188 = .ok (.ireturn, 1) := by decide +kernel
theorem dX6_faultOf_189 : decode cX6_faultOf 189 = .ok (.iinc 1 1, 3) := by decide +kernel
theorem dX6_faultOf_192 : decode cX6_faultOf 192 = .ok (.aload_n 0, 1) := by decide +kernel
theorem dX6_faultOf_193 : decode cX6_faultOf 193 = .ok (.getfield 263, 3) := by decide +kernel
theorem dX6_faultOf_196 : decode cX6_faultOf 196 = .ok (.ifCond .ne 8, 3) := by decide +kernel
theorem dX6_faultOf_199 : decode cX6_faultOf 199 = .ok (.iload 4, 2) := by decide +kernel
theorem dX6_faultOf_201 : decode cX6_faultOf 201 = .ok (.goto 4, 3) := by decide +kernel
theorem dX6_faultOf_204 : decode cX6_faultOf 204 = .ok (.iload_n 2, 1) := by decide +kernel
theorem dX6_faultOf_205 : decode cX6_faultOf 205 = .ok (.istore_n 2, 1) := by decide +kernel
theorem dX6_faultOf_206 : decode cX6_faultOf 206 = .ok (.aload_n 0, 1) := by decide +kernel
theorem dX6_faultOf_207 : decode cX6_faultOf 207 = .ok (.dup, 1) := by decide +kernel
theorem dX6_faultOf_208 : decode cX6_faultOf 208 = .ok (.getfield 76, 3) := by decide +kernel
theorem dX6_faultOf_211 : decode cX6_faultOf 211 = .ok (.aload_n 0, 1) := by decide +kernel
theorem dX6_faultOf_212 : decode cX6_faultOf 212 = .ok (.getfield 263, 3) := by decide +kernel
theorem dX6_faultOf_215 : decode cX6_faultOf 215 = .ok (.iconst 2, 1) := by decide +kernel
theorem dX6_faultOf_216 : decode cX6_faultOf 216 = .ok (.irem, 1) := by decide +kernel
theorem dX6_faultOf_217 : decode cX6_faultOf 217 = .ok (.ifCond .ne 10, 3) := by decide +kernel
theorem dX6_faultOf_220 : decode cX6_faultOf 220 = .ok (.lconst 1, 1) := by decide +kernel
theorem dX6_faultOf_221 : decode cX6_faultOf 221 = .ok (.iload 4, 2) := by decide +kernel
theorem dX6_faultOf_223 : decode cX6_faultOf 223 = .ok (.lshl, 1) := by decide +kernel
theorem dX6_faultOf_224 : decode cX6_faultOf 224 = .ok (.goto 4, 3) := by decide +kernel
theorem dX6_faultOf_227 : decode cX6_faultOf 227 = .ok (.lconst 0, 1) := by decide +kernel
theorem dX6_faultOf_228 : decode cX6_faultOf 228 = .ok (.lor, 1) := by decide +kernel
theorem dX6_faultOf_229 : decode cX6_faultOf 229 = .ok (.putfield 76, 3) := by decide +kernel
theorem dX6_faultOf_232 : decode cX6_faultOf 232 = .ok (.aload_n 0, 1) := by decide +kernel
theorem dX6_faultOf_233 : decode cX6_faultOf 233 = .ok (.dup, 1) := by decide +kernel
theorem dX6_faultOf_234 : decode cX6_faultOf 234 = .ok (.getfield 82, 3) := by decide +kernel
theorem dX6_faultOf_237 : decode cX6_faultOf 237 = .ok (.aload_n 0, 1) := by decide +kernel
theorem dX6_faultOf_238 : decode cX6_faultOf 238 = .ok (.getfield 263, 3) := by decide +kernel
theorem dX6_faultOf_241 : decode cX6_faultOf 241 = .ok (.iconst 2, 1) := by decide +kernel
theorem dX6_faultOf_242 : decode cX6_faultOf 242 = .ok (.irem, 1) := by decide +kernel
theorem dX6_faultOf_243 : decode cX6_faultOf 243 = .ok (.iconst 1, 1) := by decide +kernel
theorem dX6_faultOf_244 : decode cX6_faultOf 244 = .ok (.if_icmp .ne 10, 3) := by decide +kernel
theorem dX6_faultOf_247 : decode cX6_faultOf 247 = .ok (.lconst 1, 1) := by decide +kernel
theorem dX6_faultOf_248 : decode cX6_faultOf 248 = .ok (.iload 4, 2) := by decide +kernel
theorem dX6_faultOf_250 : decode cX6_faultOf 250 = .ok (.lshl, 1) := by decide +kernel
theorem dX6_faultOf_251 : decode cX6_faultOf 251 = .ok (.goto 4, 3) := by decide +kernel
theorem dX6_faultOf_254 : decode cX6_faultOf 254 = .ok (.lconst 0, 1) := by decide +kernel
theorem dX6_faultOf_255 : decode cX6_faultOf 255 = .ok (.lor, 1) := by decide +kernel
theorem dX6_faultOf_256 : decode cX6_faultOf 256 = .ok (.putfield 82, 3) := by decide +kernel
theorem dX6_faultOf_259 : decode cX6_faultOf 259 = .ok (.aload_n 0, 1) := by decide +kernel
theorem dX6_faultOf_260 : decode cX6_faultOf 260 = .ok (.getfield 58, 3) := by decide +kernel
theorem dX6_faultOf_263 : decode cX6_faultOf 263 = .ok (.aload_n 0, 1) := by decide +kernel
theorem dX6_faultOf_264 : decode cX6_faultOf 264 = .ok (.getfield 263, 3) := by decide +kernel
theorem dX6_faultOf_267 : decode cX6_faultOf 267 = .ok (.iload 4, 2) := by decide +kernel
theorem dX6_faultOf_269 : decode cX6_faultOf 269 = .ok (.iastore, 1) := by decide +kernel
theorem dX6_faultOf_270 : decode cX6_faultOf 270 = .ok (.aload_n 0, 1) := by decide +kernel
theorem dX6_faultOf_271 : decode cX6_faultOf 271 = .ok (.dup, 1) := by decide +kernel
theorem dX6_faultOf_272 : decode cX6_faultOf 272 = .ok (.getfield 263, 3) := by decide +kernel
theorem dX6_faultOf_275 : decode cX6_faultOf 275 = .ok (.iconst 1, 1) := by decide +kernel
theorem dX6_faultOf_276 : decode cX6_faultOf 276 = .ok (.iadd, 1) := by decide +kernel
theorem dX6_faultOf_277 : decode cX6_faultOf 277 = .ok (.putfield 263, 3) := by decide +kernel
theorem dX6_faultOf_280 : decode cX6_faultOf 280 = .ok (.goto (-261), 3) := by decide +kernel
theorem dX6_faultOf_283 : decode cX6_faultOf 283 = .ok (.iconst (-1), 1) := by decide +kernel
theorem dX6_faultOf_284 : decode cX6_faultOf 284 = .ok (.ireturn, 1) := by decide +kernel
theorem dX6_faultAside_0 : decode cX6_faultAside 0 = .ok (.aload_n 0, 1) := by decide +kernel
theorem dX6_faultAside_1 : decode cX6_faultAside 1 = .ok (.invokevirtual 266, 3) := by decide +kernel
theorem dX6_faultAside_4 : decode cX6_faultAside 4 = .ok (.istore_n 1, 1) := by decide +kernel
theorem dX6_faultAside_5 : decode cX6_faultAside 5 = .ok (.aload_n 0, 1) := by decide +kernel
theorem dX6_faultAside_6 : decode cX6_faultAside 6 = .ok (.aload_n 0, 1) := by decide +kernel
theorem dX6_faultAside_7 : decode cX6_faultAside 7 = .ok (.getfield 109, 3) := by decide +kernel
theorem dX6_faultAside_10 : decode cX6_faultAside 10 = .ok (.invokevirtual 115, 3) := by decide +kernel
theorem dX6_faultAside_13 : decode cX6_faultAside 13 = .ok (.iload_n 1, 1) := by decide +kernel
theorem dX6_faultAside_14 : decode cX6_faultAside 14 = .ok (.ireturn, 1) := by decide +kernel
theorem dX6_faultPosition_0 : decode cX6_faultPosition 0 = .ok (.aload_n 0, 1) := by decide +kernel
theorem dX6_faultPosition_1 : decode cX6_faultPosition 1 = .ok (.invokevirtual 269, 3) := by decide +kernel
theorem dX6_faultPosition_4 : decode cX6_faultPosition 4 = .ok (.istore_n 1, 1) := by decide +kernel
theorem dX6_faultPosition_5 : decode cX6_faultPosition 5 = .ok (.iload_n 1, 1) := by decide +kernel
theorem dX6_faultPosition_6 : decode cX6_faultPosition 6 = .ok (.ifCond .ge 8, 3) := by decide +kernel
theorem dX6_faultPosition_9 : decode cX6_faultPosition 9 = .ok (.bipush (-15), 2) := by decide +kernel
theorem dX6_faultPosition_11 : decode cX6_faultPosition 11 = .ok (.goto 4, 3) := by decide +kernel
theorem dX6_faultPosition_14 : decode cX6_faultPosition 14 = .ok (.iload_n 1, 1) := by decide +kernel
theorem dX6_faultPosition_15 : decode cX6_faultPosition 15 = .ok (.ireturn, 1) := by decide +kernel
theorem dX6_read_0 : decode cX6_read 0 = .ok (.aload_n 0, 1) := by decide +kernel
theorem dX6_read_1 : decode cX6_read 1 = .ok (.invokevirtual 269, 3) := by decide +kernel
theorem dX6_read_4 : decode cX6_read 4 = .ok (.ifCond .lt 6, 3) := by decide +kernel
theorem dX6_read_7 : decode cX6_read 7 = .ok (.bipush (-13), 2) := by decide +kernel
theorem dX6_read_9 : decode cX6_read 9 = .ok (.ireturn, 1) := by decide +kernel
theorem dX6_read_10 : decode cX6_read 10 = .ok (.iconst 0, 1) := by decide +kernel
theorem dX6_read_11 : decode cX6_read 11 = .ok (.istore_n 1, 1) := by decide +kernel
theorem dX6_read_12 : decode cX6_read 12 = .ok (.iload_n 1, 1) := by decide +kernel
theorem dX6_read_13 : decode cX6_read 13 = .ok (.aload_n 0, 1) := by decide +kernel
theorem dX6_read_14 : decode cX6_read 14 = .ok (.getfield 263, 3) := by decide +kernel
theorem dX6_read_17 : decode cX6_read 17 = .ok (.if_icmp .ge 21, 3) := by decide +kernel
theorem dX6_read_20 : decode cX6_read 20 = .ok (.aload_n 0, 1) := by decide +kernel
theorem dX6_read_21 : decode cX6_read 21 = .ok (.getfield 13, 3) := by decide +kernel
theorem dX6_read_24 : decode cX6_read 24 = .ok (.iload_n 1, 1) := by decide +kernel
theorem dX6_read_25 : decode cX6_read 25 = .ok (.aload_n 0, 1) := by decide +kernel
theorem dX6_read_26 : decode cX6_read 26 = .ok (.getfield 58, 3) := by decide +kernel
theorem dX6_read_29 : decode cX6_read 29 = .ok (.iload_n 1, 1) := by decide +kernel
theorem dX6_read_30 : decode cX6_read 30 = .ok (.iaload, 1) := by decide +kernel
theorem dX6_read_31 : decode cX6_read 31 = .ok (.iastore, 1) := by decide +kernel
theorem dX6_read_32 : decode cX6_read 32 = .ok (.iinc 1 1, 3) := by decide +kernel
theorem dX6_read_35 : decode cX6_read 35 = .ok (.goto (-23), 3) := by decide +kernel
theorem dX6_read_38 : decode cX6_read 38 = .ok (.aload_n 0, 1) := by decide +kernel
theorem dX6_read_39 : decode cX6_read 39 = .ok (.aload_n 0, 1) := by decide +kernel
theorem dX6_read_40 : decode cX6_read 40 = .ok (.getfield 263, 3) := by decide +kernel
theorem dX6_read_43 : decode cX6_read 43 = .ok (.putfield 109, 3) := by decide +kernel
theorem dX6_read_46 : decode cX6_read 46 = .ok (.aload_n 0, 1) := by decide +kernel
theorem dX6_read_47 : decode cX6_read 47 = .ok (.aload_n 0, 1) := by decide +kernel
theorem dX6_read_48 : decode cX6_read 48 = .ok (.getfield 263, 3) := by decide +kernel
theorem dX6_read_51 : decode cX6_read 51 = .ok (.putfield 112, 3) := by decide +kernel
theorem dX6_read_54 : decode cX6_read 54 = .ok (.aload_n 0, 1) := by decide +kernel
theorem dX6_read_55 : decode cX6_read 55 = .ok (.aload_n 0, 1) := by decide +kernel
theorem dX6_read_56 : decode cX6_read 56 = .ok (.getfield 109, 3) := by decide +kernel
theorem dX6_read_59 : decode cX6_read 59 = .ok (.invokevirtual 115, 3) := by decide +kernel
theorem dX6_read_62 : decode cX6_read 62 = .ok (.aload_n 0, 1) := by decide +kernel
theorem dX6_read_63 : decode cX6_read 63 = .ok (.iconst 0, 1) := by decide +kernel
theorem dX6_read_64 : decode cX6_read 64 = .ok (.putfield 119, 3) := by decide +kernel
theorem dX6_read_67 : decode cX6_read 67 = .ok (.aload_n 0, 1) := by decide +kernel
theorem dX6_read_68 : decode cX6_read 68 = .ok (.getfield 109, 3) := by decide +kernel
theorem dX6_read_71 : decode cX6_read 71 = .ok (.ireturn, 1) := by decide +kernel
theorem dX6_save_0 : decode cX6_save 0 = .ok (.iload_n 1, 1) := by decide +kernel
theorem dX6_save_1 : decode cX6_save 1 = .ok (.iconst 0, 1) := by decide +kernel
theorem dX6_save_2 : decode cX6_save 2 = .ok (.iconst 1, 1) := by decide +kernel
theorem dX6_save_3 : decode cX6_save 3 = .ok (.invokestatic 64, 3) := by decide +kernel
theorem dX6_save_6 : decode cX6_save 6 = .ok (.ifCond .ne 6, 3) := by decide +kernel
theorem dX6_save_9 : decode cX6_save 9 = .ok (.bipush (-11), 2) := by decide +kernel
theorem dX6_save_11 : decode cX6_save 11 = .ok (.ireturn, 1) := by decide +kernel
theorem dX6_save_12 : decode cX6_save 12 = .ok (.bipush 70, 2) := by decide +kernel
theorem dX6_save_14 : decode cX6_save 14 = .ok (.iload_n 1, 1) := by decide +kernel
theorem dX6_save_15 : decode cX6_save 15 = .ok (.imul, 1) := by decide +kernel
theorem dX6_save_16 : decode cX6_save 16 = .ok (.istore_n 2, 1) := by decide +kernel
theorem dX6_save_17 : decode cX6_save 17 = .ok (.aload_n 0, 1) := by decide +kernel
theorem dX6_save_18 : decode cX6_save 18 = .ok (.getfield 21, 3) := by decide +kernel
theorem dX6_save_21 : decode cX6_save 21 = .ok (.iload_n 2, 1) := by decide +kernel
theorem dX6_save_22 : decode cX6_save 22 = .ok (.aload_n 0, 1) := by decide +kernel
theorem dX6_save_23 : decode cX6_save 23 = .ok (.getfield 7, 3) := by decide +kernel
theorem dX6_save_26 : decode cX6_save 26 = .ok (.iastore, 1) := by decide +kernel
theorem dX6_save_27 : decode cX6_save 27 = .ok (.aload_n 0, 1) := by decide +kernel
theorem dX6_save_28 : decode cX6_save 28 = .ok (.getfield 21, 3) := by decide +kernel
theorem dX6_save_31 : decode cX6_save 31 = .ok (.iload_n 2, 1) := by decide +kernel
theorem dX6_save_32 : decode cX6_save 32 = .ok (.iconst 1, 1) := by decide +kernel
theorem dX6_save_33 : decode cX6_save 33 = .ok (.iadd, 1) := by decide +kernel
theorem dX6_save_34 : decode cX6_save 34 = .ok (.aload_n 0, 1) := by decide +kernel
theorem dX6_save_35 : decode cX6_save 35 = .ok (.getfield 109, 3) := by decide +kernel
theorem dX6_save_38 : decode cX6_save 38 = .ok (.iastore, 1) := by decide +kernel
theorem dX6_save_39 : decode cX6_save 39 = .ok (.aload_n 0, 1) := by decide +kernel
theorem dX6_save_40 : decode cX6_save 40 = .ok (.getfield 21, 3) := by decide +kernel
theorem dX6_save_43 : decode cX6_save 43 = .ok (.iload_n 2, 1) := by decide +kernel
theorem dX6_save_44 : decode cX6_save 44 = .ok (.iconst 2, 1) := by decide +kernel
theorem dX6_save_45 : decode cX6_save 45 = .ok (.iadd, 1) := by decide +kernel
theorem dX6_save_46 : decode cX6_save 46 = .ok (.aload_n 0, 1) := by decide +kernel
theorem dX6_save_47 : decode cX6_save 47 = .ok (.getfield 112, 3) := by decide +kernel
theorem dX6_save_50 : decode cX6_save 50 = .ok (.iastore, 1) := by decide +kernel
theorem dX6_save_51 : decode cX6_save 51 = .ok (.iconst 0, 1) := by decide +kernel
theorem dX6_save_52 : decode cX6_save 52 = .ok (.istore_n 3, 1) := by decide +kernel
theorem dX6_save_53 : decode cX6_save 53 = .ok (.iload_n 3, 1) := by decide +kernel
theorem dX6_save_54 : decode cX6_save 54 = .ok (.aload_n 0, 1) := by decide +kernel
theorem dX6_save_55 : decode cX6_save 55 = .ok (.getfield 112, 3) := by decide +kernel
theorem dX6_save_58 : decode cX6_save 58 = .ok (.if_icmp .ge 25, 3) := by decide +kernel
theorem dX6_save_61 : decode cX6_save 61 = .ok (.aload_n 0, 1) := by decide +kernel
theorem dX6_save_62 : decode cX6_save 62 = .ok (.getfield 21, 3) := by decide +kernel
theorem dX6_save_65 : decode cX6_save 65 = .ok (.iload_n 2, 1) := by decide +kernel
theorem dX6_save_66 : decode cX6_save 66 = .ok (.iconst 3, 1) := by decide +kernel
theorem dX6_save_67 : decode cX6_save 67 = .ok (.iadd, 1) := by decide +kernel
theorem dX6_save_68 : decode cX6_save 68 = .ok (.iload_n 3, 1) := by decide +kernel
theorem dX6_save_69 : decode cX6_save 69 = .ok (.iadd, 1) := by decide +kernel
theorem dX6_save_70 : decode cX6_save 70 = .ok (.aload_n 0, 1) := by decide +kernel
theorem dX6_save_71 : decode cX6_save 71 = .ok (.getfield 13, 3) := by decide +kernel
theorem dX6_save_74 : decode cX6_save 74 = .ok (.iload_n 3, 1) := by decide +kernel
theorem dX6_save_75 : decode cX6_save 75 = .ok (.iaload, 1) := by decide +kernel
theorem dX6_save_76 : decode cX6_save 76 = .ok (.iastore, 1) := by decide +kernel
theorem dX6_save_77 : decode cX6_save 77 = .ok (.iinc 3 1, 3) := by decide +kernel
theorem dX6_save_80 : decode cX6_save 80 = .ok (.goto (-27), 3) := by decide +kernel
theorem dX6_save_83 : decode cX6_save 83 = .ok (.aload_n 0, 1) := by decide +kernel
theorem dX6_save_84 : decode cX6_save 84 = .ok (.getfield 24, 3) := by decide +kernel
theorem dX6_save_87 : decode cX6_save 87 = .ok (.iload_n 1, 1) := by decide +kernel
theorem dX6_save_88 : decode cX6_save 88 = .ok (.iconst 1, 1) := by decide +kernel
theorem dX6_save_89 : decode cX6_save 89 = .ok (.bastore, 1) := by decide +kernel
theorem dX6_save_90 : decode cX6_save 90 = .ok (.aload_n 0, 1) := by decide +kernel
theorem dX6_save_91 : decode cX6_save 91 = .ok (.getfield 109, 3) := by decide +kernel
theorem dX6_save_94 : decode cX6_save 94 = .ok (.ireturn, 1) := by decide +kernel
theorem dX6_restore_0 : decode cX6_restore 0 = .ok (.iload_n 1, 1) := by decide +kernel
theorem dX6_restore_1 : decode cX6_restore 1 = .ok (.iconst 0, 1) := by decide +kernel
theorem dX6_restore_2 : decode cX6_restore 2 = .ok (.iconst 1, 1) := by decide +kernel
theorem dX6_restore_3 : decode cX6_restore 3 = .ok (.invokestatic 64, 3) := by decide +kernel
theorem dX6_restore_6 : decode cX6_restore 6 = .ok (.ifCond .ne 6, 3) := by decide +kernel
theorem dX6_restore_9 : decode cX6_restore 9 = .ok (.bipush (-11), 2) := by decide +kernel
theorem dX6_restore_11 : decode cX6_restore 11 = .ok (.ireturn, 1) := by decide +kernel
theorem dX6_restore_12 : decode cX6_restore 12 = .ok (.aload_n 0, 1) := by decide +kernel
theorem dX6_restore_13 : decode cX6_restore 13 = .ok (.getfield 24, 3) := by decide +kernel
theorem dX6_restore_16 : decode cX6_restore 16 = .ok (.iload_n 1, 1) := by decide +kernel
theorem dX6_restore_17 : decode cX6_restore 17 = .ok (.baload, 1) := by decide +kernel
theorem dX6_restore_18 : decode cX6_restore 18 = .ok (.ifCond .ne 6, 3) := by decide +kernel
theorem dX6_restore_21 : decode cX6_restore 21 = .ok (.bipush (-13), 2) := by decide +kernel
theorem dX6_restore_23 : decode cX6_restore 23 = .ok (.ireturn, 1) := by decide +kernel
theorem dX6_restore_24 : decode cX6_restore 24 = .ok (.bipush 70, 2) := by decide +kernel
theorem dX6_restore_26 : decode cX6_restore 26 = .ok (.iload_n 1, 1) := by decide +kernel
theorem dX6_restore_27 : decode cX6_restore 27 = .ok (.imul, 1) := by decide +kernel
theorem dX6_restore_28 : decode cX6_restore 28 = .ok (.istore_n 2, 1) := by decide +kernel
theorem dX6_restore_29 : decode cX6_restore 29 = .ok (.aload_n 0, 1) := by decide +kernel
theorem dX6_restore_30 : decode cX6_restore 30 = .ok (.aload_n 0, 1) := by decide +kernel
theorem dX6_restore_31 : decode cX6_restore 31 = .ok (.getfield 21, 3) := by decide +kernel
theorem dX6_restore_34 : decode cX6_restore 34 = .ok (.iload_n 2, 1) := by decide +kernel
theorem dX6_restore_35 : decode cX6_restore 35 = .ok (.iaload, 1) := by decide +kernel
theorem dX6_restore_36 : decode cX6_restore 36 = .ok (.putfield 7, 3) := by decide +kernel
theorem dX6_restore_39 : decode cX6_restore 39 = .ok (.aload_n 0, 1) := by decide +kernel
theorem dX6_restore_40 : decode cX6_restore 40 = .ok (.aload_n 0, 1) := by decide +kernel
theorem dX6_restore_41 : decode cX6_restore 41 = .ok (.getfield 21, 3) := by decide +kernel
theorem dX6_restore_44 : decode cX6_restore 44 = .ok (.iload_n 2, 1) := by decide +kernel
theorem dX6_restore_45 : decode cX6_restore 45 = .ok (.iconst 1, 1) := by decide +kernel
theorem dX6_restore_46 : decode cX6_restore 46 = .ok (.iadd, 1) := by decide +kernel
theorem dX6_restore_47 : decode cX6_restore 47 = .ok (.iaload, 1) := by decide +kernel
theorem dX6_restore_48 : decode cX6_restore 48 = .ok (.putfield 109, 3) := by decide +kernel
theorem dX6_restore_51 : decode cX6_restore 51 = .ok (.aload_n 0, 1) := by decide +kernel
theorem dX6_restore_52 : decode cX6_restore 52 = .ok (.aload_n 0, 1) := by decide +kernel
theorem dX6_restore_53 : decode cX6_restore 53 = .ok (.getfield 21, 3) := by decide +kernel
theorem dX6_restore_56 : decode cX6_restore 56 = .ok (.iload_n 2, 1) := by decide +kernel
theorem dX6_restore_57 : decode cX6_restore 57 = .ok (.iconst 2, 1) := by decide +kernel
theorem dX6_restore_58 : decode cX6_restore 58 = .ok (.iadd, 1) := by decide +kernel
theorem dX6_restore_59 : decode cX6_restore 59 = .ok (.iaload, 1) := by decide +kernel
theorem dX6_restore_60 : decode cX6_restore 60 = .ok (.putfield 112, 3) := by decide +kernel
theorem dX6_restore_63 : decode cX6_restore 63 = .ok (.iconst 0, 1) := by decide +kernel
theorem dX6_restore_64 : decode cX6_restore 64 = .ok (.istore_n 3, 1) := by decide +kernel
theorem dX6_restore_65 : decode cX6_restore 65 = .ok (.iload_n 3, 1) := by decide +kernel
theorem dX6_restore_66 : decode cX6_restore 66 = .ok (.aload_n 0, 1) := by decide +kernel
theorem dX6_restore_67 : decode cX6_restore 67 = .ok (.getfield 112, 3) := by decide +kernel
theorem dX6_restore_70 : decode cX6_restore 70 = .ok (.if_icmp .ge 25, 3) := by decide +kernel
theorem dX6_restore_73 : decode cX6_restore 73 = .ok (.aload_n 0, 1) := by decide +kernel
theorem dX6_restore_74 : decode cX6_restore 74 = .ok (.getfield 13, 3) := by decide +kernel
theorem dX6_restore_77 : decode cX6_restore 77 = .ok (.iload_n 3, 1) := by decide +kernel
theorem dX6_restore_78 : decode cX6_restore 78 = .ok (.aload_n 0, 1) := by decide +kernel
theorem dX6_restore_79 : decode cX6_restore 79 = .ok (.getfield 21, 3) := by decide +kernel
theorem dX6_restore_82 : decode cX6_restore 82 = .ok (.iload_n 2, 1) := by decide +kernel
theorem dX6_restore_83 : decode cX6_restore 83 = .ok (.iconst 3, 1) := by decide +kernel
theorem dX6_restore_84 : decode cX6_restore 84 = .ok (.iadd, 1) := by decide +kernel
theorem dX6_restore_85 : decode cX6_restore 85 = .ok (.iload_n 3, 1) := by decide +kernel
theorem dX6_restore_86 : decode cX6_restore 86 = .ok (.iadd, 1) := by decide +kernel
theorem dX6_restore_87 : decode cX6_restore 87 = .ok (.iaload, 1) := by decide +kernel
theorem dX6_restore_88 : decode cX6_restore 88 = .ok (.iastore, 1) := by decide +kernel
theorem dX6_restore_89 : decode cX6_restore 89 = .ok (.iinc 3 1, 3) := by decide +kernel
theorem dX6_restore_92 : decode cX6_restore 92 = .ok (.goto (-27), 3) := by decide +kernel
theorem dX6_restore_95 : decode cX6_restore 95 = .ok (.aload_n 0, 1) := by decide +kernel
theorem dX6_restore_96 : decode cX6_restore 96 = .ok (.invokevirtual 61, 3) := by decide +kernel
theorem dX6_restore_99 : decode cX6_restore 99 = .ok (.aload_n 0, 1) := by decide +kernel
theorem dX6_restore_100 : decode cX6_restore 100 = .ok (.aload_n 0, 1) := by decide +kernel
theorem dX6_restore_101 : decode cX6_restore 101 = .ok (.getfield 109, 3) := by decide +kernel
theorem dX6_restore_104 : decode cX6_restore 104 = .ok (.invokevirtual 115, 3) := by decide +kernel
theorem dX6_restore_107 : decode cX6_restore 107 = .ok (.aload_n 0, 1) := by decide +kernel
theorem dX6_restore_108 : decode cX6_restore 108 = .ok (.iconst 0, 1) := by decide +kernel
theorem dX6_restore_109 : decode cX6_restore 109 = .ok (.putfield 119, 3) := by decide +kernel
theorem dX6_restore_112 : decode cX6_restore 112 = .ok (.aload_n 0, 1) := by decide +kernel
theorem dX6_restore_113 : decode cX6_restore 113 = .ok (.getfield 109, 3) := by decide +kernel
theorem dX6_restore_116 : decode cX6_restore 116 = .ok (.ireturn, 1) := by decide +kernel
theorem dX6_more_0 : decode cX6_more 0 = .ok (.ldc2_w 272, 3) := by decide +kernel
theorem dX6_more_3 : decode cX6_more 3 = .ok (.lload_n 0, 1) := by decide +kernel
theorem dX6_more_4 : decode cX6_more 4 = .ok (.lmul, 1) := by decide +kernel
theorem dX6_more_5 : decode cX6_more 5 = .ok (.lload_n 2, 1) := by decide +kernel
theorem dX6_more_6 : decode cX6_more 6 = .ok (.ladd, 1) := by decide +kernel
theorem dX6_more_7 : decode cX6_more 7 = .ok (.lreturn, 1) := by decide +kernel
theorem dX6_checksum_0 : decode cX6_checksum 0 = .ok (.ldc2_w 274, 3) := by decide +kernel
theorem dX6_checksum_3 : decode cX6_checksum 3 = .ok (.aload_n 0, 1) := by decide +kernel
theorem dX6_checksum_4 : decode cX6_checksum 4 = .ok (.getfield 7, 3) := by decide +kernel
theorem dX6_checksum_7 : decode cX6_checksum 7 = .ok (.i2l, 1) := by decide +kernel
theorem dX6_checksum_8 : decode cX6_checksum 8 = .ok (.invokestatic 276, 3) := by decide +kernel
theorem dX6_checksum_11 : decode cX6_checksum 11 = .ok (.aload_n 0, 1) := by decide +kernel
theorem dX6_checksum_12 : decode cX6_checksum 12 = .ok (.getfield 109, 3) := by decide +kernel
theorem dX6_checksum_15 : decode cX6_checksum 15 = .ok (.i2l, 1) := by decide +kernel
theorem dX6_checksum_16 : decode cX6_checksum 16 = .ok (.invokestatic 276, 3) := by decide +kernel
theorem dX6_checksum_19 : decode cX6_checksum 19 = .ok (.lstore_n 1, 1) := by decide +kernel
theorem dX6_checksum_20 : decode cX6_checksum 20 = .ok (.iconst 0, 1) := by decide +kernel
theorem dX6_checksum_21 : decode cX6_checksum 21 = .ok (.istore_n 3, 1) := by decide +kernel
theorem dX6_checksum_22 : decode cX6_checksum 22 = .ok (.iload_n 3, 1) := by decide +kernel
theorem dX6_checksum_23 : decode cX6_checksum 23 = .ok (.aload_n 0, 1) := by decide +kernel
theorem dX6_checksum_24 : decode cX6_checksum 24 = .ok (.getfield 109, 3) := by decide +kernel
theorem dX6_checksum_27 : decode cX6_checksum 27 = .ok (.if_icmp .ge 21, 3) := by decide +kernel
theorem dX6_checksum_30 : decode cX6_checksum 30 = .ok (.lload_n 1, 1) := by decide +kernel
theorem dX6_checksum_31 : decode cX6_checksum 31 = .ok (.aload_n 0, 1) := by decide +kernel
theorem dX6_checksum_32 : decode cX6_checksum 32 = .ok (.getfield 13, 3) := by decide +kernel
theorem dX6_checksum_35 : decode cX6_checksum 35 = .ok (.iload_n 3, 1) := by decide +kernel
theorem dX6_checksum_36 : decode cX6_checksum 36 = .ok (.iaload, 1) := by decide +kernel
theorem dX6_checksum_37 : decode cX6_checksum 37 = .ok (.i2l, 1) := by decide +kernel
theorem dX6_checksum_38 : decode cX6_checksum 38 = .ok (.invokestatic 276, 3) := by decide +kernel
theorem dX6_checksum_41 : decode cX6_checksum 41 = .ok (.lstore_n 1, 1) := by decide +kernel
theorem dX6_checksum_42 : decode cX6_checksum 42 = .ok (.iinc 3 1, 3) := by decide +kernel
theorem dX6_checksum_45 : decode cX6_checksum 45 = .ok (.goto (-23), 3) := by decide +kernel
theorem dX6_checksum_48 : decode cX6_checksum 48 = .ok (.lload_n 1, 1) := by decide +kernel
theorem dX6_checksum_49 : decode cX6_checksum 49 = .ok (.aload_n 0, 1) := by decide +kernel
theorem dX6_checksum_50 : decode cX6_checksum 50 = .ok (.invokevirtual 129, 3) := by decide +kernel
theorem dX6_checksum_53 : decode cX6_checksum 53 = .ok (.i2l, 1) := by decide +kernel
theorem dX6_checksum_54 : decode cX6_checksum 54 = .ok (.invokestatic 276, 3) := by decide +kernel
theorem dX6_checksum_57 : decode cX6_checksum 57 = .ok (.lstore_n 1, 1) := by decide +kernel
theorem dX6_checksum_58 : decode cX6_checksum 58 = .ok (.iconst 0, 1) := by decide +kernel
theorem dX6_checksum_59 : decode cX6_checksum 59 = .ok (.istore_n 3, 1) := by decide +kernel
theorem dX6_checksum_60 : decode cX6_checksum 60 = .ok (.iload_n 3, 1) := by decide +kernel
theorem dX6_checksum_61 : decode cX6_checksum 61 = .ok (.iconst 2, 1) := by decide +kernel
theorem dX6_checksum_62 : decode cX6_checksum 62 = .ok (.if_icmp .ge 84, 3) := by decide +kernel
theorem dX6_checksum_65 : decode cX6_checksum 65 = .ok (.lload_n 1, 1) := by decide +kernel
theorem dX6_checksum_66 : decode cX6_checksum 66 = .ok (.aload_n 0, 1) := by decide +kernel
theorem dX6_checksum_67 : decode cX6_checksum 67 = .ok (.iload_n 3, 1) := by decide +kernel
theorem dX6_checksum_68 : decode cX6_checksum 68 = .ok (.invokevirtual 139, 3) := by decide +kernel
theorem dX6_checksum_71 : decode cX6_checksum 71 = .ok (.invokestatic 276, 3) := by decide +kernel
theorem dX6_checksum_74 : decode cX6_checksum 74 = .ok (.aload_n 0, 1) := by decide +kernel
theorem dX6_checksum_75 : decode cX6_checksum 75 = .ok (.iload_n 3, 1) := by decide +kernel
theorem dX6_checksum_76 : decode cX6_checksum 76 = .ok (.invokevirtual 279, 3) := by decide +kernel
theorem dX6_checksum_79 : decode cX6_checksum 79 = .ok (.i2l, 1) := by decide +kernel
theorem dX6_checksum_80 : decode cX6_checksum 80 = .ok (.invokestatic 276, 3) := by decide +kernel
theorem dX6_checksum_83 : decode cX6_checksum 83 = .ok (.aload_n 0, 1) := by decide +kernel
theorem dX6_checksum_84 : decode cX6_checksum 84 = .ok (.iload_n 3, 1) := by decide +kernel
theorem dX6_checksum_85 : decode cX6_checksum 85 = .ok (.invokevirtual 155, 3) := by decide +kernel
theorem dX6_checksum_88 : decode cX6_checksum 88 = .ok (.i2l, 1) := by decide +kernel
theorem dX6_checksum_89 : decode cX6_checksum 89 = .ok (.invokestatic 276, 3) := by decide +kernel
theorem dX6_checksum_92 : decode cX6_checksum 92 = .ok (.lstore_n 1, 1) := by decide +kernel
theorem dX6_checksum_93 : decode cX6_checksum 93 = .ok (.lload_n 1, 1) := by decide +kernel
theorem dX6_checksum_94 : decode cX6_checksum 94 = .ok (.aload_n 0, 1) := by decide +kernel
theorem dX6_checksum_95 : decode cX6_checksum 95 = .ok (.iload_n 3, 1) := by decide +kernel
theorem dX6_checksum_96 : decode cX6_checksum 96 = .ok (.invokevirtual 161, 3) := by decide +kernel
theorem dX6_checksum_99 : decode cX6_checksum 99 = .ok (.invokestatic 276, 3) := by decide +kernel
theorem dX6_checksum_102 : decode cX6_checksum 102 = .ok (.aload_n 0, 1) := by decide +kernel
theorem dX6_checksum_103 : decode cX6_checksum 103 = .ok (.iload_n 3, 1) := by decide +kernel
theorem dX6_checksum_104 : decode cX6_checksum 104 = .ok (.invokevirtual 282, 3) := by decide +kernel
theorem dX6_checksum_107 : decode cX6_checksum 107 = .ok (.i2l, 1) := by decide +kernel
theorem dX6_checksum_108 : decode cX6_checksum 108 = .ok (.invokestatic 276, 3) := by decide +kernel
theorem dX6_checksum_111 : decode cX6_checksum 111 = .ok (.aload_n 0, 1) := by decide +kernel
theorem dX6_checksum_112 : decode cX6_checksum 112 = .ok (.iload_n 3, 1) := by decide +kernel
theorem dX6_checksum_113 : decode cX6_checksum 113 = .ok (.invokevirtual 171, 3) := by decide +kernel
theorem dX6_checksum_116 : decode cX6_checksum 116 = .ok (.i2l, 1) := by decide +kernel
theorem dX6_checksum_117 : decode cX6_checksum 117 = .ok (.invokestatic 276, 3) := by decide +kernel
theorem dX6_checksum_120 : decode cX6_checksum 120 = .ok (.lstore_n 1, 1) := by decide +kernel
theorem dX6_checksum_121 : decode cX6_checksum 121 = .ok (.lload_n 1, 1) := by decide +kernel
theorem dX6_checksum_122 : decode cX6_checksum 122 = .ok (.aload_n 0, 1) := by decide +kernel
theorem dX6_checksum_123 : decode cX6_checksum 123 = .ok (.iload_n 3, 1) := by decide +kernel
theorem dX6_checksum_124 : decode cX6_checksum 124 = .ok (.invokevirtual 242, 3) := by decide +kernel
theorem dX6_checksum_127 : decode cX6_checksum 127 = .ok (.i2l, 1) := by decide +kernel
theorem dX6_checksum_128 : decode cX6_checksum 128 = .ok (.invokestatic 276, 3) := by decide +kernel
theorem dX6_checksum_131 : decode cX6_checksum 131 = .ok (.aload_n 0, 1) := by decide +kernel
theorem dX6_checksum_132 : decode cX6_checksum 132 = .ok (.iload_n 3, 1) := by decide +kernel
theorem dX6_checksum_133 : decode cX6_checksum 133 = .ok (.invokevirtual 245, 3) := by decide +kernel
theorem dX6_checksum_136 : decode cX6_checksum 136 = .ok (.invokestatic 276, 3) := by decide +kernel
theorem dX6_checksum_139 : decode cX6_checksum 139 = .ok (.lstore_n 1, 1) := by decide +kernel
theorem dX6_checksum_140 : decode cX6_checksum 140 = .ok (.iinc 3 1, 3) := by decide +kernel
theorem dX6_checksum_143 : decode cX6_checksum 143 = .ok (.goto (-83), 3) := by decide +kernel
theorem dX6_checksum_146 : decode cX6_checksum 146 = .ok (.lload_n 1, 1) := by decide +kernel
theorem dX6_checksum_147 : decode cX6_checksum 147 = .ok (.aload_n 0, 1) := by decide +kernel
theorem dX6_checksum_148 : decode cX6_checksum 148 = .ok (.invokevirtual 174, 3) := by decide +kernel
theorem dX6_checksum_151 : decode cX6_checksum 151 = .ok (.invokestatic 276, 3) := by decide +kernel
theorem dX6_checksum_154 : decode cX6_checksum 154 = .ok (.lreturn, 1) := by decide +kernel
