theorem dX5_init_0 : decode cX5_init 0 = .ok (.aload_n 0, 1) := by decide +kernel
theorem dX5_init_1 : decode cX5_init 1 = .ok (.invokespecial 3, 3) := by decide +kernel
theorem dX5_init_4 : decode cX5_init 4 = .ok (.aload_n 0, 1) := by decide +kernel
theorem dX5_init_5 : decode cX5_init 5 = .ok (.iconst 2, 1) := by decide +kernel
theorem dX5_init_6 : decode cX5_init 6 = .ok (.anewarray 9, 3) := by decide +kernel
theorem dX5_init_9 : decode cX5_init 9 = .ok (.putfield 11, 3) := by decide +kernel
theorem dX5_init_12 : decode cX5_init 12 = .ok (.aload_n 0, 1) := by decide +kernel
theorem dX5_init_13 : decode cX5_init 13 = .ok (.new 15, 3) := by decide +kernel
theorem dX5_init_16 : decode cX5_init 16 = .ok (.dup, 1) := by decide +kernel
theorem dX5_init_17 : decode cX5_init 17 = .ok (.invokespecial 17, 3) := by decide +kernel
theorem dX5_init_20 : decode cX5_init 20 = .ok (.putfield 18, 3) := by decide +kernel
theorem dX5_init_23 : decode cX5_init 23 = .ok (.aload_n 0, 1) := by decide +kernel
theorem dX5_init_24 : decode cX5_init 24 = .ok (.new 22, 3) := by decide +kernel
theorem dX5_init_27 : decode cX5_init 27 = .ok (.dup, 1) := by decide +kernel
theorem dX5_init_28 : decode cX5_init 28 = .ok (.invokespecial 24, 3) := by decide +kernel
theorem dX5_init_31 : decode cX5_init 31 = .ok (.putfield 25, 3) := by decide +kernel
theorem dX5_init_34 : decode cX5_init 34 = .ok (.aload_n 0, 1) := by decide +kernel
theorem dX5_init_35 : decode cX5_init 35 = .ok (.sipush 147, 3) := by decide +kernel
theorem dX5_init_38 : decode cX5_init 38 = .ok (.newarray .int, 2) := by decide +kernel
theorem dX5_init_40 : decode cX5_init 40 = .ok (.putfield 29, 3) := by decide +kernel
theorem dX5_init_43 : decode cX5_init 43 = .ok (.aload_n 0, 1) := by decide +kernel
theorem dX5_init_44 : decode cX5_init 44 = .ok (.bipush 6, 2) := by decide +kernel
theorem dX5_init_46 : decode cX5_init 46 = .ok (.newarray .int, 2) := by decide +kernel
theorem dX5_init_48 : decode cX5_init 48 = .ok (.putfield 33, 3) := by decide +kernel
theorem dX5_init_51 : decode cX5_init 51 = .ok (.aload_n 0, 1) := by decide +kernel
theorem dX5_init_52 : decode cX5_init 52 = .ok (.bipush 6, 2) := by decide +kernel
theorem dX5_init_54 : decode cX5_init 54 = .ok (.newarray .long, 2) := by decide +kernel
theorem dX5_init_56 : decode cX5_init 56 = .ok (.putfield 36, 3) := by decide +kernel
theorem dX5_init_59 : decode cX5_init 59 = .ok (.aload_n 0, 1) := by decide +kernel
theorem dX5_init_60 : decode cX5_init 60 = .ok (.bipush 100, 2) := by decide +kernel
theorem dX5_init_62 : decode cX5_init 62 = .ok (.newarray .byte, 2) := by decide +kernel
theorem dX5_init_64 : decode cX5_init 64 = .ok (.putfield 40, 3) := by decide +kernel
theorem dX5_init_67 : decode cX5_init 67 = .ok (.new 44, 3) := by decide +kernel
theorem dX5_init_70 : decode cX5_init 70 = .ok (.dup, 1) := by decide +kernel
theorem dX5_init_71 : decode cX5_init 71 = .ok (.iconst 5, 1) := by decide +kernel
theorem dX5_init_72 : decode cX5_init 72 = .ok (.invokespecial 46, 3) := by decide +kernel
theorem dX5_init_75 : decode cX5_init 75 = .ok (.astore_n 1, 1) := by decide +kernel
theorem dX5_init_76 : decode cX5_init 76 = .ok (.aload_n 0, 1) := by decide +kernel
theorem dX5_init_77 : decode cX5_init 77 = .ok (.new 9, 3) := by decide +kernel
theorem dX5_init_80 : decode cX5_init 80 = .ok (.dup, 1) := by decide +kernel
theorem dX5_init_81 : decode cX5_init 81 = .ok (.aload_n 1, 1) := by decide +kernel
theorem dX5_init_82 : decode cX5_init 82 = .ok (.invokespecial 49, 3) := by decide +kernel
theorem dX5_init_85 : decode cX5_init 85 = .ok (.putfield 52, 3) := by decide +kernel
theorem dX5_init_88 : decode cX5_init 88 = .ok (.aload_n 0, 1) := by decide +kernel
theorem dX5_init_89 : decode cX5_init 89 = .ok (.new 9, 3) := by decide +kernel
theorem dX5_init_92 : decode cX5_init 92 = .ok (.dup, 1) := by decide +kernel
theorem dX5_init_93 : decode cX5_init 93 = .ok (.aload_n 1, 1) := by decide +kernel
theorem dX5_init_94 : decode cX5_init 94 = .ok (.invokespecial 49, 3) := by decide +kernel
theorem dX5_init_97 : decode cX5_init 97 = .ok (.putfield 56, 3) := by decide +kernel
theorem dX5_init_100 : decode cX5_init 100 = .ok (.aload_n 0, 1) := by decide +kernel
theorem dX5_init_101 : decode cX5_init 101 = .ok (.new 59, 3) := by decide +kernel
theorem dX5_init_104 : decode cX5_init 104 = .ok (.dup, 1) := by decide +kernel
theorem dX5_init_105 : decode cX5_init 105 = .ok (.aload_n 1, 1) := by decide +kernel
theorem dX5_init_106 : decode cX5_init 106 = .ok (.invokespecial 61, 3) := by decide +kernel
theorem dX5_init_109 : decode cX5_init 109 = .ok (.putfield 62, 3) := by decide +kernel
theorem dX5_init_112 : decode cX5_init 112 = .ok (.return_, 1) := by decide +kernel
theorem dX5_begin_0 : decode cX5_begin 0 = .ok (.iload_n 1, 1) := by decide +kernel
theorem dX5_begin_1 : decode cX5_begin 1 = .ok (.iconst 2, 1) := by decide +kernel
theorem dX5_begin_2 : decode cX5_begin 2 = .ok (.if_icmp .lt 9, 3) := by decide +kernel
theorem dX5_begin_5 : decode cX5_begin 5 = .ok (.iload_n 1, 1) := by decide +kernel
theorem dX5_begin_6 : decode cX5_begin 6 = .ok (.bipush 7, 2) := by decide +kernel
theorem dX5_begin_8 : decode cX5_begin 8 = .ok (.if_icmp .le 6, 3) := by decide +kernel
theorem dX5_begin_11 : decode cX5_begin 11 = .ok (.bipush (-12), 2) := by decide +kernel
theorem dX5_begin_13 : decode cX5_begin 13 = .ok (.ireturn, 1) := by decide +kernel
theorem dX5_begin_14 : decode cX5_begin 14 = .ok (.aload_n 0, 1) := by decide +kernel
theorem dX5_begin_15 : decode cX5_begin 15 = .ok (.getfield 52, 3) := by decide +kernel
theorem dX5_begin_18 : decode cX5_begin 18 = .ok (.getfield 66, 3) := by decide +kernel
theorem dX5_begin_21 : decode cX5_begin 21 = .ok (.getfield 70, 3) := by decide +kernel
theorem dX5_begin_24 : decode cX5_begin 24 = .ok (.istore_n 2, 1) := by decide +kernel
theorem dX5_begin_25 : decode cX5_begin 25 = .ok (.aload_n 0, 1) := by decide +kernel
theorem dX5_begin_26 : decode cX5_begin 26 = .ok (.getfield 52, 3) := by decide +kernel
theorem dX5_begin_29 : decode cX5_begin 29 = .ok (.new 44, 3) := by decide +kernel
theorem dX5_begin_32 : decode cX5_begin 32 = .ok (.dup, 1) := by decide +kernel
theorem dX5_begin_33 : decode cX5_begin 33 = .ok (.iload_n 1, 1) := by decide +kernel
theorem dX5_begin_34 : decode cX5_begin 34 = .ok (.invokespecial 46, 3) := by decide +kernel
theorem dX5_begin_37 : decode cX5_begin 37 = .ok (.invokevirtual 74, 3) := by decide +kernel
theorem dX5_begin_40 : decode cX5_begin 40 = .ok (.aload_n 0, 1) := by decide +kernel
theorem dX5_begin_41 : decode cX5_begin 41 = .ok (.iconst 0, 1) := by decide +kernel
theorem dX5_begin_42 : decode cX5_begin 42 = .ok (.putfield 77, 3) := by decide +kernel
theorem dX5_begin_45 : decode cX5_begin 45 = .ok (.iload_n 2, 1) := by decide +kernel
theorem dX5_begin_46 : decode cX5_begin 46 = .ok (.ireturn, 1) := by decide +kernel
theorem dX5_rows_0 : decode cX5_rows 0 = .ok (.aload_n 0, 1) := by decide +kernel
theorem dX5_rows_1 : decode cX5_rows 1 = .ok (.getfield 52, 3) := by decide +kernel
theorem dX5_rows_4 : decode cX5_rows 4 = .ok (.getfield 66, 3) := by decide +kernel
theorem dX5_rows_7 : decode cX5_rows 7 = .ok (.getfield 70, 3) := by decide +kernel
theorem dX5_rows_10 : decode cX5_rows 10 = .ok (.ireturn, 1) := by decide +kernel
theorem dX5_play_0 : decode cX5_play 0 = .ok (.aload_n 0, 1) := by decide +kernel
theorem dX5_play_1 : decode cX5_play 1 = .ok (.iload_n 1, 1) := by decide +kernel
theorem dX5_play_2 : decode cX5_play 2 = .ok (.invokevirtual 80, 3) := by decide +kernel
theorem dX5_play_5 : decode cX5_play 5 = .ok (.ifCond .ne 6, 3) := by decide +kernel
theorem dX5_play_8 : decode cX5_play 8 = .ok (.bipush (-11), 2) := by decide +kernel
theorem dX5_play_10 : decode cX5_play 10 = .ok (.ireturn, 1) := by decide +kernel
theorem dX5_play_11 : decode cX5_play 11 = .ok (.aload_n 0, 1) := by decide +kernel
theorem dX5_play_12 : decode cX5_play 12 = .ok (.getfield 52, 3) := by decide +kernel
theorem dX5_play_15 : decode cX5_play 15 = .ok (.iload_n 1, 1) := by decide +kernel
theorem dX5_play_16 : decode cX5_play 16 = .ok (.invokevirtual 84, 3) := by decide +kernel
theorem dX5_play_19 : decode cX5_play 19 = .ok (.ifCond .eq 15, 3) := by decide +kernel
theorem dX5_play_22 : decode cX5_play 22 = .ok (.aload_n 0, 1) := by decide +kernel
theorem dX5_play_23 : decode cX5_play 23 = .ok (.getfield 52, 3) := by decide +kernel
theorem dX5_play_26 : decode cX5_play 26 = .ok (.invokevirtual 87, 3) := by decide +kernel
theorem dX5_play_29 : decode cX5_play 29 = .ok (.bipush (-15), 2) := by decide +kernel
theorem dX5_play_31 : decode cX5_play 31 = .ok (.if_icmp .eq 6, 3) := by decide +kernel
theorem dX5_play_34 : decode cX5_play 34 = .ok (.bipush (-13), 2) := by decide +kernel
theorem dX5_play_36 : decode cX5_play 36 = .ok (.ireturn, 1) := by decide +kernel
theorem dX5_play_37 : decode cX5_play 37 = .ok (.aload_n 0, 1) := by decide +kernel
theorem dX5_play_38 : decode cX5_play 38 = .ok (.getfield 52, 3) := by decide +kernel
theorem dX5_play_41 : decode cX5_play 41 = .ok (.iload_n 1, 1) := by decide +kernel
theorem dX5_play_42 : decode cX5_play 42 = .ok (.invokevirtual 91, 3) := by decide +kernel
theorem dX5_play_45 : decode cX5_play 45 = .ok (.aload_n 0, 1) := by decide +kernel
theorem dX5_play_46 : decode cX5_play 46 = .ok (.getfield 52, 3) := by decide +kernel
theorem dX5_play_49 : decode cX5_play 49 = .ok (.getfield 94, 3) := by decide +kernel
theorem dX5_play_52 : decode cX5_play 52 = .ok (.iconst 1, 1) := by decide +kernel
theorem dX5_play_53 : decode cX5_play 53 = .ok (.isub, 1) := by decide +kernel
theorem dX5_play_54 : decode cX5_play 54 = .ok (.ireturn, 1) := by decide +kernel
theorem dX5_swap_0 : decode cX5_swap 0 = .ok (.aload_n 0, 1) := by decide +kernel
theorem dX5_swap_1 : decode cX5_swap 1 = .ok (.getfield 52, 3) := by decide +kernel
theorem dX5_swap_4 : decode cX5_swap 4 = .ok (.invokevirtual 97, 3) := by decide +kernel
theorem dX5_swap_7 : decode cX5_swap 7 = .ok (.ifCond .ne 6, 3) := by decide +kernel
theorem dX5_swap_10 : decode cX5_swap 10 = .ok (.bipush (-13), 2) := by decide +kernel
theorem dX5_swap_12 : decode cX5_swap 12 = .ok (.ireturn, 1) := by decide +kernel
theorem dX5_swap_13 : decode cX5_swap 13 = .ok (.aload_n 0, 1) := by decide +kernel
theorem dX5_swap_14 : decode cX5_swap 14 = .ok (.getfield 52, 3) := by decide +kernel
theorem dX5_swap_17 : decode cX5_swap 17 = .ok (.bipush (-16), 2) := by decide +kernel
theorem dX5_swap_19 : decode cX5_swap 19 = .ok (.invokevirtual 91, 3) := by decide +kernel
theorem dX5_swap_22 : decode cX5_swap 22 = .ok (.aload_n 0, 1) := by decide +kernel
theorem dX5_swap_23 : decode cX5_swap 23 = .ok (.getfield 52, 3) := by decide +kernel
theorem dX5_swap_26 : decode cX5_swap 26 = .ok (.iconst 1, 1) := by decide +kernel
theorem dX5_swap_27 : decode cX5_swap 27 = .ok (.invokevirtual 101, 3) := by decide +kernel
theorem dX5_swap_30 : decode cX5_swap 30 = .ok (.invokestatic 105, 3) := by decide +kernel
theorem dX5_swap_33 : decode cX5_swap 33 = .ok (.ireturn, 1) := by decide +kernel
theorem dX5_takeBack_0 : decode cX5_takeBack 0 = .ok (.aload_n 0, 1) := by decide +kernel
theorem dX5_takeBack_1 : decode cX5_takeBack 1 = .ok (.getfield 52, 3) := by decide +kernel
theorem dX5_takeBack_4 : decode cX5_takeBack 4 = .ok (.getfield 94, 3) := by decide +kernel
theorem dX5_takeBack_7 : decode cX5_takeBack 7 = .ok (.ifCond .ne 6, 3) := by decide +kernel
theorem dX5_takeBack_10 : decode cX5_takeBack 10 = .ok (.bipush (-13), 2) := by decide +kernel
theorem dX5_takeBack_12 : decode cX5_takeBack 12 = .ok (.ireturn, 1) := by decide +kernel
theorem dX5_takeBack_13 : decode cX5_takeBack 13 = .ok (.aload_n 0, 1) := by decide +kernel
theorem dX5_takeBack_14 : decode cX5_takeBack 14 = .ok (.getfield 52, 3) := by decide +kernel
theorem dX5_takeBack_17 : decode cX5_takeBack 17 = .ok (.invokevirtual 109, 3) := by decide +kernel
theorem dX5_takeBack_20 : decode cX5_takeBack 20 = .ok (.aload_n 0, 1) := by decide +kernel
theorem dX5_takeBack_21 : decode cX5_takeBack 21 = .ok (.getfield 52, 3) := by decide +kernel
theorem dX5_takeBack_24 : decode cX5_takeBack 24 = .ok (.getfield 94, 3) := by decide +kernel
theorem dX5_takeBack_27 : decode cX5_takeBack 27 = .ok (.ireturn, 1) := by decide +kernel
theorem dX5_again_0 : decode cX5_again 0 = .ok (.aload_n 0, 1) := by decide +kernel
theorem dX5_again_1 : decode cX5_again 1 = .ok (.getfield 52, 3) := by decide +kernel
theorem dX5_again_4 : decode cX5_again 4 = .ok (.getfield 94, 3) := by decide +kernel
theorem dX5_again_7 : decode cX5_again 7 = .ok (.aload_n 0, 1) := by decide +kernel
theorem dX5_again_8 : decode cX5_again 8 = .ok (.getfield 52, 3) := by decide +kernel
theorem dX5_again_11 : decode cX5_again 11 = .ok (.getfield 112, 3) := by decide +kernel
theorem dX5_again_14 : decode cX5_again 14 = .ok (.if_icmp .ne 6, 3) := by decide +kernel
theorem dX5_again_17 : decode cX5_again 17 = .ok (.bipush (-13), 2) := by decide +kernel
theorem dX5_again_19 : decode cX5_again 19 = .ok (.ireturn, 1) := by decide +kernel
theorem dX5_again_20 : decode cX5_again 20 = .ok (.aload_n 0, 1) := by decide +kernel
theorem dX5_again_21 : decode cX5_again 21 = .ok (.getfield 52, 3) := by decide +kernel
theorem dX5_again_24 : decode cX5_again 24 = .ok (.invokevirtual 115, 3) := by decide +kernel
theorem dX5_again_27 : decode cX5_again 27 = .ok (.aload_n 0, 1) := by decide +kernel
theorem dX5_again_28 : decode cX5_again 28 = .ok (.getfield 52, 3) := by decide +kernel
theorem dX5_again_31 : decode cX5_again 31 = .ok (.getfield 94, 3) := by decide +kernel
theorem dX5_again_34 : decode cX5_again 34 = .ok (.iconst 1, 1) := by decide +kernel
theorem dX5_again_35 : decode cX5_again 35 = .ok (.isub, 1) := by decide +kernel
theorem dX5_again_36 : decode cX5_again 36 = .ok (.ireturn, 1) := by decide +kernel
theorem dX5_moves_0 : decode cX5_moves 0 = .ok (.aload_n 0, 1) := by decide +kernel
theorem dX5_moves_1 : decode cX5_moves 1 = .ok (.getfield 52, 3) := by decide +kernel
theorem dX5_moves_4 : decode cX5_moves 4 = .ok (.getfield 94, 3) := by decide +kernel
theorem dX5_moves_7 : decode cX5_moves 7 = .ok (.ireturn, 1) := by decide +kernel
theorem dX5_moveAt_0 : decode cX5_moveAt 0 = .ok (.iload_n 1, 1) := by decide +kernel
theorem dX5_moveAt_1 : decode cX5_moveAt 1 = .ok (.ifCond .lt 14, 3) := by decide +kernel
theorem dX5_moveAt_4 : decode cX5_moveAt 4 = .ok (.iload_n 1, 1) := by decide +kernel
theorem dX5_moveAt_5 : decode cX5_moveAt 5 = .ok (.aload_n 0, 1) := by decide +kernel
theorem dX5_moveAt_6 : decode cX5_moveAt 6 = .ok (.getfield 52, 3) := by decide +kernel
theorem dX5_moveAt_9 : decode cX5_moveAt 9 = .ok (.getfield 94, 3) := by decide +kernel
theorem dX5_moveAt_12 : decode cX5_moveAt 12 = .ok (.if_icmp .lt 6, 3) := by decide +kernel
theorem dX5_moveAt_15 : decode cX5_moveAt 15 = .ok (.bipush (-11), 2) := by decide +kernel
theorem dX5_moveAt_17 : decode cX5_moveAt 17 = .ok (.ireturn, 1) := by decide +kernel
theorem dX5_moveAt_18 : decode cX5_moveAt 18 = .ok (.aload_n 0, 1) := by decide +kernel
theorem dX5_moveAt_19 : decode cX5_moveAt 19 = .ok (.getfield 52, 3) := by decide +kernel
theorem dX5_moveAt_22 : decode cX5_moveAt 22 = .ok (.iload_n 1, 1) := by decide +kernel
theorem dX5_moveAt_23 : decode cX5_moveAt 23 = .ok (.invokevirtual 118, 3) := by decide +kernel
theorem dX5_moveAt_26 : decode cX5_moveAt 26 = .ok (.ireturn, 1) := by decide +kernel
theorem dX5_turn_0 : decode cX5_turn 0 = .ok (.aload_n 0, 1) := by decide +kernel
theorem dX5_turn_1 : decode cX5_turn 1 = .ok (.getfield 52, 3) := by decide +kernel
theorem dX5_turn_4 : decode cX5_turn 4 = .ok (.invokevirtual 122, 3) := by decide +kernel
theorem dX5_turn_7 : decode cX5_turn 7 = .ok (.ireturn, 1) := by decide +kernel
theorem dX5_winner_0 : decode cX5_winner 0 = .ok (.aload_n 0, 1) := by decide +kernel
theorem dX5_winner_1 : decode cX5_winner 1 = .ok (.getfield 52, 3) := by decide +kernel
theorem dX5_winner_4 : decode cX5_winner 4 = .ok (.invokevirtual 87, 3) := by decide +kernel
theorem dX5_winner_7 : decode cX5_winner 7 = .ok (.ireturn, 1) := by decide +kernel
theorem dX5_stones_0 : decode cX5_stones 0 = .ok (.iload_n 1, 1) := by decide +kernel
theorem dX5_stones_1 : decode cX5_stones 1 = .ok (.invokestatic 125, 3) := by decide +kernel
theorem dX5_stones_4 : decode cX5_stones 4 = .ok (.ifCond .ne 7, 3) := by decide +kernel
theorem dX5_stones_7 : decode cX5_stones 7 = .ok (.ldc2_w 128, 3) := by decide +kernel
theorem dX5_stones_10 : decode cX5_stones 10 = .ok (.lreturn, 1) := by decide +kernel
theorem dX5_stones_11 : decode cX5_stones 11 = .ok (.aload_n 0, 1) := by decide +kernel
theorem dX5_stones_12 : decode cX5_stones 12 = .ok (.getfield 52, 3) := by decide +kernel
theorem dX5_stones_15 : decode cX5_stones 15 = .ok (.iload_n 1, 1) := by decide +kernel
theorem dX5_stones_16 : decode cX5_stones 16 = .ok (.invokevirtual 101, 3) := by decide +kernel
theorem dX5_stones_19 : decode cX5_stones 19 = .ok (.lreturn, 1) := by decide +kernel
theorem dX5_beside_0 : decode cX5_beside 0 = .ok (.aload_n 0, 1) := by decide +kernel
theorem dX5_beside_1 : decode cX5_beside 1 = .ok (.iload_n 1, 1) := by decide +kernel
theorem dX5_beside_2 : decode cX5_beside 2 = .ok (.invokevirtual 80, 3) := by decide +kernel
theorem dX5_beside_5 : decode cX5_beside 5 = .ok (.ifCond .ne 7, 3) := by decide +kernel
theorem dX5_beside_8 : decode cX5_beside 8 = .ok (.ldc2_w 128, 3) := by decide +kernel
theorem dX5_beside_11 : decode cX5_beside 11 = .ok (.lreturn, 1) := by decide +kernel
theorem dX5_beside_12 : decode cX5_beside 12 = .ok (.aload_n 0, 1) := by decide +kernel
theorem dX5_beside_13 : decode cX5_beside 13 = .ok (.getfield 52, 3) := by decide +kernel
theorem dX5_beside_16 : decode cX5_beside 16 = .ok (.getfield 66, 3) := by decide +kernel
theorem dX5_beside_19 : decode cX5_beside 19 = .ok (.lconst 1, 1) := by decide +kernel
theorem dX5_beside_20 : decode cX5_beside 20 = .ok (.iload_n 1, 1) := by decide +kernel
theorem dX5_beside_21 : decode cX5_beside 21 = .ok (.lshl, 1) := by decide +kernel
theorem dX5_beside_22 : decode cX5_beside 22 = .ok (.invokevirtual 130, 3) := by decide +kernel
theorem dX5_beside_25 : decode cX5_beside 25 = .ok (.lreturn, 1) := by decide +kernel
theorem dX5_chains_0 : decode cX5_chains 0 = .ok (.iload_n 1, 1) := by decide +kernel
theorem dX5_chains_1 : decode cX5_chains 1 = .ok (.invokestatic 125, 3) := by decide +kernel
theorem dX5_chains_4 : decode cX5_chains 4 = .ok (.ifCond .ne 6, 3) := by decide +kernel
theorem dX5_chains_7 : decode cX5_chains 7 = .ok (.bipush (-11), 2) := by decide +kernel
theorem dX5_chains_9 : decode cX5_chains 9 = .ok (.ireturn, 1) := by decide +kernel
theorem dX5_chains_10 : decode cX5_chains 10 = .ok (.aload_n 0, 1) := by decide +kernel
theorem dX5_chains_11 : decode cX5_chains 11 = .ok (.getfield 52, 3) := by decide +kernel
theorem dX5_chains_14 : decode cX5_chains 14 = .ok (.iload_n 1, 1) := by decide +kernel
theorem dX5_chains_15 : decode cX5_chains 15 = .ok (.invokevirtual 101, 3) := by decide +kernel
theorem dX5_chains_18 : decode cX5_chains 18 = .ok (.lstore_n 2, 1) := by decide +kernel
theorem dX5_chains_19 : decode cX5_chains 19 = .ok (.iconst 0, 1) := by decide +kernel
theorem dX5_chains_20 : decode cX5_chains 20 = .ok (.istore 4, 2) := by decide +kernel
theorem dX5_chains_22 : decode cX5_chains 22 = .ok (.iconst 0, 1) := by decide +kernel
theorem dX5_chains_23 : decode cX5_chains 23 = .ok (.istore 5, 2) := by decide +kernel
theorem dX5_chains_25 : decode cX5_chains 25 = .ok (.iload 5, 2) := by decide +kernel
theorem dX5_chains_27 : decode cX5_chains 27 = .ok (.bipush 49, 2) := by decide +kernel
theorem dX5_chains_29 : decode cX5_chains 29 = .ok (.if_icmp .ge 40, 3) := by decide +kernel
theorem dX5_chains_32 : decode cX5_chains 32 = .ok (.lload_n 2, 1) := by decide +kernel
theorem dX5_chains_33 : decode cX5_chains 33 = .ok (.lconst 0, 1) := by decide +kernel
theorem dX5_chains_34 : decode cX5_chains 34 = .ok (.lcmp, 1) := by decide +kernel
theorem dX5_chains_35 : decode cX5_chains 35 = .ok (.ifCond .eq 34, 3) := by decide +kernel
theorem dX5_chains_38 : decode cX5_chains 38 = .ok (.lload_n 2, 1) := by decide +kernel
theorem dX5_chains_39 : decode cX5_chains 39 = .ok (.aload_n 0, 1) := by decide +kernel
theorem dX5_chains_40 : decode cX5_chains 40 = .ok (.getfield 52, 3) := by decide +kernel
theorem dX5_chains_43 : decode cX5_chains 43 = .ok (.getfield 66, 3) := by decide +kernel
theorem dX5_chains_46 : decode cX5_chains 46 = .ok (.lload_n 2, 1) := by decide +kernel
theorem dX5_chains_47 : decode cX5_chains 47 = .ok (.lload_n 2, 1) := by decide +kernel
theorem dX5_chains_48 : decode cX5_chains 48 = .ok (.lneg, 1) := by decide +kernel
theorem dX5_chains_49 : decode cX5_chains 49 = .ok (.land, 1) := by decide +kernel
theorem dX5_chains_50 : decode cX5_chains 50 = .ok (.lload_n 2, 1) := by decide +kernel
theorem dX5_chains_51 : decode cX5_chains 51 = .ok (.invokevirtual 134, 3) := by decide +kernel
theorem dX5_chains_54 : decode cX5_chains 54 = .ok (.ldc2_w 138, 3) := by decide +kernel
theorem dX5_chains_57 : decode cX5_chains 57 = .ok (.lxor, 1) := by decide +kernel
theorem dX5_chains_58 : decode cX5_chains 58 = .ok (.land, 1) := by decide +kernel
theorem dX5_chains_59 : decode cX5_chains 59 = .ok (.lstore_n 2, 1) := by decide +kernel
theorem dX5_chains_60 : decode cX5_chains 60 = .ok (.iinc 4 1, 3) := by decide +kernel
theorem dX5_chains_63 : decode cX5_chains 63 = .ok (.iinc 5 1, 3) := by decide +kernel
theorem dX5_chains_66 : decode cX5_chains 66 = .ok (.goto (-41), 3) := by decide +kernel
theorem dX5_chains_69 : decode cX5_chains 69 = .ok (.iload 4, 2) := by decide +kernel
theorem dX5_chains_71 : decode cX5_chains 71 = .ok (.ireturn, 1) := by decide +kernel
theorem dX5_chainOf_0 : decode cX5_chainOf 0 = .ok (.aload_n 0, 1) := by decide +kernel
theorem dX5_chainOf_1 : decode cX5_chainOf 1 = .ok (.iload_n 1, 1) := by decide +kernel
theorem dX5_chainOf_2 : decode cX5_chainOf 2 = .ok (.invokevirtual 80, 3) := by decide +kernel
theorem dX5_chainOf_5 : decode cX5_chainOf 5 = .ok (.ifCond .ne 6, 3) := by decide +kernel
theorem dX5_chainOf_8 : decode cX5_chainOf 8 = .ok (.bipush (-11), 2) := by decide +kernel
theorem dX5_chainOf_10 : decode cX5_chainOf 10 = .ok (.ireturn, 1) := by decide +kernel
theorem dX5_chainOf_11 : decode cX5_chainOf 11 = .ok (.aload_n 0, 1) := by decide +kernel
theorem dX5_chainOf_12 : decode cX5_chainOf 12 = .ok (.iload_n 1, 1) := by decide +kernel
theorem dX5_chainOf_13 : decode cX5_chainOf 13 = .ok (.invokevirtual 140, 3) := by decide +kernel
theorem dX5_chainOf_16 : decode cX5_chainOf 16 = .ok (.lstore_n 2, 1) := by decide +kernel
theorem dX5_chainOf_17 : decode cX5_chainOf 17 = .ok (.lload_n 2, 1) := by decide +kernel
theorem dX5_chainOf_18 : decode cX5_chainOf 18 = .ok (.lconst 0, 1) := by decide +kernel
theorem dX5_chainOf_19 : decode cX5_chainOf 19 = .ok (.lcmp, 1) := by decide +kernel
theorem dX5_chainOf_20 : decode cX5_chainOf 20 = .ok (.ifCond .ne 8, 3) := by decide +kernel
theorem dX5_chainOf_23 : decode cX5_chainOf 23 = .ok (.bipush (-15), 2) := by decide +kernel
theorem dX5_chainOf_25 : decode cX5_chainOf 25 = .ok (.goto 7, 3) := by decide +kernel
theorem dX5_chainOf_28 : decode cX5_chainOf 28 = .ok (.lload_n 2, 1) := by decide +kernel
theorem dX5_chainOf_29 : decode cX5_chainOf 29 = .ok (.invokestatic 105, 3) := by decide +kernel
theorem dX5_chainOf_32 : decode cX5_chainOf 32 = .ok (.ireturn, 1) := by decide +kernel
theorem dX5_chain_0 : decode cX5_chain 0 = .ok (.aload_n 0, 1) := by decide +kernel
theorem dX5_chain_1 : decode cX5_chain 1 = .ok (.iload_n 1, 1) := by decide +kernel
theorem dX5_chain_2 : decode cX5_chain 2 = .ok (.invokevirtual 80, 3) := by decide +kernel
theorem dX5_chain_5 : decode cX5_chain 5 = .ok (.ifCond .ne 7, 3) := by decide +kernel
theorem dX5_chain_8 : decode cX5_chain 8 = .ok (.ldc2_w 128, 3) := by decide +kernel
theorem dX5_chain_11 : decode cX5_chain 11 = .ok (.lreturn, 1) := by decide +kernel
theorem dX5_chain_12 : decode cX5_chain 12 = .ok (.aload_n 0, 1) := by decide +kernel
theorem dX5_chain_13 : decode cX5_chain 13 = .ok (.iload_n 1, 1) := by decide +kernel
theorem dX5_chain_14 : decode cX5_chain 14 = .ok (.invokevirtual 140, 3) := by decide +kernel
theorem dX5_chain_17 : decode cX5_chain 17 = .ok (.lstore_n 2, 1) := by decide +kernel
theorem dX5_chain_18 : decode cX5_chain 18 = .ok (.lload_n 2, 1) := by decide +kernel
theorem dX5_chain_19 : decode cX5_chain 19 = .ok (.lconst 0, 1) := by decide +kernel
theorem dX5_chain_20 : decode cX5_chain 20 = .ok (.lcmp, 1) := by decide +kernel
theorem dX5_chain_21 : decode cX5_chain 21 = .ok (.ifCond .eq 15, 3) := by decide +kernel
theorem dX5_chain_24 : decode cX5_chain 24 = .ok (.lload_n 2, 1) := by decide +kernel
theorem dX5_chain_25 : decode cX5_chain 25 = .ok (.invokestatic 105, 3) := by decide +kernel
theorem dX5_chain_28 : decode cX5_chain 28 = .ok (.iload_n 1, 1) := by decide +kernel
theorem dX5_chain_29 : decode cX5_chain 29 = .ok (.if_icmp .ne 7, 3) := by decide +kernel
theorem dX5_chain_32 : decode cX5_chain 32 = .ok (.lload_n 2, 1) := by decide +kernel
theorem dX5_chain_33 : decode cX5_chain 33 = .ok (.goto 6, 3) := by decide +kernel
theorem dX5_chain_36 : decode cX5_chain 36 = .ok (.ldc2_w 128, 3) := by decide +kernel
theorem dX5_chain_39 : decode cX5_chain 39 = .ok (.lreturn, 1) := by decide +kernel
theorem dX5_distance_0 : decode cX5_distance 0 = .ok (.iload_n 1, 1) := by decide +kernel
theorem dX5_distance_1 : decode cX5_distance 1 = .ok (.invokestatic 125, 3) := by decide +kernel
theorem dX5_distance_4 : decode cX5_distance 4 = .ok (.ifCond .ne 6, 3) := by decide +kernel
theorem dX5_distance_7 : decode cX5_distance 7 = .ok (.bipush (-11), 2) := by decide +kernel
theorem dX5_distance_9 : decode cX5_distance 9 = .ok (.ireturn, 1) := by decide +kernel
theorem dX5_distance_10 : decode cX5_distance 10 = .ok (.aload_n 0, 1) := by decide +kernel
theorem dX5_distance_11 : decode cX5_distance 11 = .ok (.getfield 18, 3) := by decide +kernel
theorem dX5_distance_14 : decode cX5_distance 14 = .ok (.aload_n 0, 1) := by decide +kernel
theorem dX5_distance_15 : decode cX5_distance 15 = .ok (.getfield 52, 3) := by decide +kernel
theorem dX5_distance_18 : decode cX5_distance 18 = .ok (.iload_n 1, 1) := by decide +kernel
theorem dX5_distance_19 : decode cX5_distance 19 = .ok (.invokevirtual 143, 3) := by decide +kernel
theorem dX5_distance_22 : decode cX5_distance 22 = .ok (.ireturn, 1) := by decide +kernel
theorem dX5_shortest_0 : decode cX5_shortest 0 = .ok (.iload_n 1, 1) := by decide +kernel
theorem dX5_shortest_1 : decode cX5_shortest 1 = .ok (.invokestatic 125, 3) := by decide +kernel
theorem dX5_shortest_4 : decode cX5_shortest 4 = .ok (.ifCond .ne 7, 3) := by decide +kernel
theorem dX5_shortest_7 : decode cX5_shortest 7 = .ok (.ldc2_w 128, 3) := by decide +kernel
theorem dX5_shortest_10 : decode cX5_shortest 10 = .ok (.lreturn, 1) := by decide +kernel
theorem dX5_shortest_11 : decode cX5_shortest 11 = .ok (.aload_n 0, 1) := by decide +kernel
theorem dX5_shortest_12 : decode cX5_shortest 12 = .ok (.getfield 18, 3) := by decide +kernel
theorem dX5_shortest_15 : decode cX5_shortest 15 = .ok (.aload_n 0, 1) := by decide +kernel
theorem dX5_shortest_16 : decode cX5_shortest 16 = .ok (.getfield 52, 3) := by decide +kernel
theorem dX5_shortest_19 : decode cX5_shortest 19 = .ok (.iload_n 1, 1) := by decide +kernel
theorem dX5_shortest_20 : decode cX5_shortest 20 = .ok (.invokevirtual 147, 3) := by decide +kernel
theorem dX5_shortest_23 : decode cX5_shortest 23 = .ok (.lreturn, 1) := by decide +kernel
theorem dX5_cut_0 : decode cX5_cut 0 = .ok (.iload_n 1, 1) := by decide +kernel
theorem dX5_cut_1 : decode cX5_cut 1 = .ok (.invokestatic 125, 3) := by decide +kernel
theorem dX5_cut_4 : decode cX5_cut 4 = .ok (.ifCond .ne 6, 3) := by decide +kernel
theorem dX5_cut_7 : decode cX5_cut 7 = .ok (.bipush (-11), 2) := by decide +kernel
theorem dX5_cut_9 : decode cX5_cut 9 = .ok (.ireturn, 1) := by decide +kernel
theorem dX5_cut_10 : decode cX5_cut 10 = .ok (.aload_n 0, 1) := by decide +kernel
theorem dX5_cut_11 : decode cX5_cut 11 = .ok (.getfield 18, 3) := by decide +kernel
theorem dX5_cut_14 : decode cX5_cut 14 = .ok (.aload_n 0, 1) := by decide +kernel
theorem dX5_cut_15 : decode cX5_cut 15 = .ok (.getfield 52, 3) := by decide +kernel
theorem dX5_cut_18 : decode cX5_cut 18 = .ok (.iconst 1, 1) := by decide +kernel
theorem dX5_cut_19 : decode cX5_cut 19 = .ok (.iload_n 1, 1) := by decide +kernel
theorem dX5_cut_20 : decode cX5_cut 20 = .ok (.isub, 1) := by decide +kernel
theorem dX5_cut_21 : decode cX5_cut 21 = .ok (.invokevirtual 143, 3) := by decide +kernel
theorem dX5_cut_24 : decode cX5_cut 24 = .ok (.ireturn, 1) := by decide +kernel
theorem dX5_bridges_0 : decode cX5_bridges 0 = .ok (.iload_n 1, 1) := by decide +kernel
theorem dX5_bridges_1 : decode cX5_bridges 1 = .ok (.invokestatic 125, 3) := by decide +kernel
theorem dX5_bridges_4 : decode cX5_bridges 4 = .ok (.ifCond .ne 6, 3) := by decide +kernel
theorem dX5_bridges_7 : decode cX5_bridges 7 = .ok (.bipush (-11), 2) := by decide +kernel
theorem dX5_bridges_9 : decode cX5_bridges 9 = .ok (.ireturn, 1) := by decide +kernel
theorem dX5_bridges_10 : decode cX5_bridges 10 = .ok (.aload_n 0, 1) := by decide +kernel
theorem dX5_bridges_11 : decode cX5_bridges 11 = .ok (.aload_n 0, 1) := by decide +kernel
theorem dX5_bridges_12 : decode cX5_bridges 12 = .ok (.getfield 52, 3) := by decide +kernel
theorem dX5_bridges_15 : decode cX5_bridges 15 = .ok (.iload_n 1, 1) := by decide +kernel
theorem dX5_bridges_16 : decode cX5_bridges 16 = .ok (.invokevirtual 101, 3) := by decide +kernel
theorem dX5_bridges_19 : decode cX5_bridges 19 = .ok (.aload_n 0, 1) := by decide +kernel
theorem dX5_bridges_20 : decode cX5_bridges 20 = .ok (.getfield 52, 3) := by decide +kernel
theorem dX5_bridges_23 : decode cX5_bridges 23 = .ok (.invokevirtual 151, 3) := by decide +kernel
theorem dX5_bridges_26 : decode cX5_bridges 26 = .ok (.invokevirtual 155, 3) := by decide +kernel
theorem dX5_bridges_29 : decode cX5_bridges 29 = .ok (.ireturn, 1) := by decide +kernel
theorem dX5_bridge_0 : decode cX5_bridge 0 = .ok (.iload_n 1, 1) := by decide +kernel
theorem dX5_bridge_1 : decode cX5_bridge 1 = .ok (.invokestatic 125, 3) := by decide +kernel
theorem dX5_bridge_4 : decode cX5_bridge 4 = .ok (.ifCond .eq 7, 3) := by decide +kernel
theorem dX5_bridge_7 : decode cX5_bridge 7 = .ok (.iload_n 2, 1) := by decide +kernel
theorem dX5_bridge_8 : decode cX5_bridge 8 = .ok (.ifCond .ge 6, 3) := by decide +kernel
theorem dX5_bridge_11 : decode cX5_bridge 11 = .ok (.bipush (-11), 2) := by decide +kernel
theorem dX5_bridge_13 : decode cX5_bridge 13 = .ok (.ireturn, 1) := by decide +kernel
theorem dX5_bridge_14 : decode cX5_bridge 14 = .ok (.aload_n 0, 1) := by decide +kernel
theorem dX5_bridge_15 : decode cX5_bridge 15 = .ok (.aload_n 0, 1) := by decide +kernel
theorem dX5_bridge_16 : decode cX5_bridge 16 = .ok (.getfield 52, 3) := by decide +kernel
theorem dX5_bridge_19 : decode cX5_bridge 19 = .ok (.iload_n 1, 1) := by decide +kernel
theorem dX5_bridge_20 : decode cX5_bridge 20 = .ok (.invokevirtual 101, 3) := by decide +kernel
theorem dX5_bridge_23 : decode cX5_bridge 23 = .ok (.aload_n 0, 1) := by decide +kernel
theorem dX5_bridge_24 : decode cX5_bridge 24 = .ok (.getfield 52, 3) := by decide +kernel
theorem dX5_bridge_27 : decode cX5_bridge 27 = .ok (.invokevirtual 151, 3) := by decide +kernel
theorem dX5_bridge_30 : decode cX5_bridge 30 = .ok (.invokevirtual 155, 3) := by decide +kernel
theorem dX5_bridge_33 : decode cX5_bridge 33 = .ok (.istore 4, 2) := by decide +kernel
theorem dX5_bridge_35 : decode cX5_bridge 35 = .ok (.iload_n 2, 1) := by decide +kernel
theorem dX5_bridge_36 : decode cX5_bridge 36 = .ok (.iload 4, 2) := by decide +kernel
theorem dX5_bridge_38 : decode cX5_bridge 38 = .ok (.if_icmp .ge 10, 3) := by decide +kernel
theorem dX5_bridge_41 : decode cX5_bridge 41 = .ok (.iload_n 2, 1) := by decide +kernel
theorem dX5_bridge_42 : decode cX5_bridge 42 = .ok (.sipush 147, 3) := by decide +kernel
theorem dX5_bridge_45 : decode cX5_bridge 45 = .ok (.if_icmp .lt 6, 3) := by decide +kernel
theorem dX5_bridge_48 : decode cX5_bridge 48 = .ok (.bipush (-11), 2) := by decide +kernel
theorem dX5_bridge_50 : decode cX5_bridge 50 = .ok (.ireturn, 1) := by decide +kernel
theorem dX5_bridge_51 : decode cX5_bridge 51 = .ok (.aload_n 0, 1) := by decide +kernel
theorem dX5_bridge_52 : decode cX5_bridge 52 = .ok (.getfield 29, 3) := by decide +kernel
theorem dX5_bridge_55 : decode cX5_bridge 55 = .ok (.iload_n 2, 1) := by decide +kernel
theorem dX5_bridge_56 : decode cX5_bridge 56 = .ok (.iaload, 1) := by decide +kernel
theorem dX5_bridge_57 : decode cX5_bridge 57 = .ok (.istore 5, 2) := by decide +kernel
theorem dX5_bridge_59 : decode cX5_bridge 59 = .ok (.aload_n 0, 1) := by decide +kernel
theorem dX5_bridge_60 : decode cX5_bridge 60 = .ok (.iload 5, 2) := by decide +kernel
theorem dX5_bridge_62 : decode cX5_bridge 62 = .ok (.invokevirtual 159, 3) := by decide +kernel
theorem dX5_bridge_65 : decode cX5_bridge 65 = .ok (.lstore 6, 2) := by decide +kernel
theorem dX5_bridge_67 : decode cX5_bridge 67 = .ok (.iload_n 3, 1) := by decide +kernel
theorem dX5_bridge_68 : decode cX5_bridge 68 = .ok (.tableswitch 61 0 3 #[32, 38, 44, 50], 32) := by decide +kernel
theorem dX5_bridge_100 : decode cX5_bridge 100 = .ok (.iload 5, 2) := by decide +kernel
theorem dX5_bridge_102 : decode cX5_bridge 102 = .ok (.bipush 6, 2) := by decide +kernel
theorem dX5_bridge_104 : decode cX5_bridge 104 = .ok (.iushr, 1) := by decide +kernel
theorem dX5_bridge_105 : decode cX5_bridge 105 = .ok (.ireturn, 1) := by decide +kernel
theorem dX5_bridge_106 : decode cX5_bridge 106 = .ok (.iload 5, 2) := by decide +kernel
theorem dX5_bridge_108 : decode cX5_bridge 108 = .ok (.bipush 63, 2) := by decide +kernel
theorem dX5_bridge_110 : decode cX5_bridge 110 = .ok (.iand, 1) := by decide +kernel
theorem dX5_bridge_111 : decode cX5_bridge 111 = .ok (.ireturn, 1) := by decide +kernel
theorem dX5_bridge_112 : decode cX5_bridge 112 = .ok (.lload 6, 2) := by decide +kernel
theorem dX5_bridge_114 : decode cX5_bridge 114 = .ok (.invokestatic 105, 3) := by decide +kernel
theorem dX5_bridge_117 : decode cX5_bridge 117 = .ok (.ireturn, 1) := by decide +kernel
theorem dX5_bridge_118 : decode cX5_bridge 118 = .ok (.lload 6, 2) := by decide +kernel
theorem dX5_bridge_120 : decode cX5_bridge 120 = .ok (.lload 6, 2) := by decide +kernel
theorem dX5_bridge_122 : decode cX5_bridge 122 = .ok (.lconst 1, 1) := by decide +kernel
theorem dX5_bridge_123 : decode cX5_bridge 123 = .ok (.lsub, 1) := by decide +kernel
theorem dX5_bridge_124 : decode cX5_bridge 124 = .ok (.land, 1) := by decide +kernel
theorem dX5_bridge_125 : decode cX5_bridge 125 = .ok (.invokestatic 105, 3) := by decide +kernel
theorem dX5_bridge_128 : decode cX5_bridge 128 = .ok (.ireturn, 1) := by decide +kernel
theorem dX5_bridge_129 : decode cX5_bridge 129 = .ok (.bipush (-12), 2) := by decide +kernel
theorem dX5_bridge_131 : decode cX5_bridge 131 = .ok (.ireturn, 1) := by decide +kernel
theorem dX5_answers_0 : decode cX5_answers 0 = .ok (.aload_n 0, 1) := by decide +kernel
theorem dX5_answers_1 : decode cX5_answers 1 = .ok (.getfield 52, 3) := by decide +kernel
theorem dX5_answers_4 : decode cX5_answers 4 = .ok (.invokevirtual 162, 3) := by decide +kernel
theorem dX5_answers_7 : decode cX5_answers 7 = .ok (.istore_n 1, 1) := by decide +kernel
theorem dX5_answers_8 : decode cX5_answers 8 = .ok (.iload_n 1, 1) := by decide +kernel
theorem dX5_answers_9 : decode cX5_answers 9 = .ok (.ifCond .ge 5, 3) := by decide +kernel
theorem dX5_answers_12 : decode cX5_answers 12 = .ok (.lconst 0, 1) := by decide +kernel
theorem dX5_answers_13 : decode cX5_answers 13 = .ok (.lreturn, 1) := by decide +kernel
theorem dX5_answers_14 : decode cX5_answers 14 = .ok (.lconst 1, 1) := by decide +kernel
theorem dX5_answers_15 : decode cX5_answers 15 = .ok (.iload_n 1, 1) := by decide +kernel
theorem dX5_answers_16 : decode cX5_answers 16 = .ok (.lshl, 1) := by decide +kernel
theorem dX5_answers_17 : decode cX5_answers 17 = .ok (.lstore_n 2, 1) := by decide +kernel
theorem dX5_answers_18 : decode cX5_answers 18 = .ok (.aload_n 0, 1) := by decide +kernel
theorem dX5_answers_19 : decode cX5_answers 19 = .ok (.aload_n 0, 1) := by decide +kernel
theorem dX5_answers_20 : decode cX5_answers 20 = .ok (.getfield 52, 3) := by decide +kernel
theorem dX5_answers_23 : decode cX5_answers 23 = .ok (.aload_n 0, 1) := by decide +kernel
theorem dX5_answers_24 : decode cX5_answers 24 = .ok (.getfield 52, 3) := by decide +kernel
theorem dX5_answers_27 : decode cX5_answers 27 = .ok (.invokevirtual 122, 3) := by decide +kernel
theorem dX5_answers_30 : decode cX5_answers 30 = .ok (.invokevirtual 101, 3) := by decide +kernel
theorem dX5_answers_33 : decode cX5_answers 33 = .ok (.aload_n 0, 1) := by decide +kernel
theorem dX5_answers_34 : decode cX5_answers 34 = .ok (.getfield 52, 3) := by decide +kernel
theorem dX5_answers_37 : decode cX5_answers 37 = .ok (.invokevirtual 151, 3) := by decide +kernel
theorem dX5_answers_40 : decode cX5_answers 40 = .ok (.lload_n 2, 1) := by decide +kernel
theorem dX5_answers_41 : decode cX5_answers 41 = .ok (.lor, 1) := by decide +kernel
theorem dX5_answers_42 : decode cX5_answers 42 = .ok (.invokevirtual 155, 3) := by decide +kernel
theorem dX5_answers_45 : decode cX5_answers 45 = .ok (.istore 4, 2) := by decide +kernel
theorem dX5_answers_47 : decode cX5_answers 47 = .ok (.lconst 0, 1) := by decide +kernel
theorem dX5_answers_48 : decode cX5_answers 48 = .ok (.lstore 5, 2) := by decide +kernel
theorem dX5_answers_50 : decode cX5_answers 50 = .ok (.iconst 0, 1) := by decide +kernel
theorem dX5_answers_51 : decode cX5_answers 51 = .ok (.istore 7, 2) := by decide +kernel
theorem dX5_answers_53 : decode cX5_answers 53 = .ok (.iload 7, 2) := by decide +kernel
theorem dX5_answers_55 : decode cX5_answers 55 = .ok (.iload 4, 2) := by decide +kernel
theorem dX5_answers_57 : decode cX5_answers 57 = .ok (.if_icmp .ge 52, 3) := by decide +kernel
theorem dX5_answers_60 : decode cX5_answers 60 = .ok (.iload 7, 2) := by decide +kernel
theorem dX5_answers_62 : decode cX5_answers 62 = .ok (.sipush 147, 3) := by decide +kernel
theorem dX5_answers_65 : decode cX5_answers 65 = .ok (.if_icmp .ge 44, 3) := by decide +kernel
theorem dX5_answers_68 : decode cX5_answers 68 = .ok (.aload_n 0, 1) := by decide +kernel
theorem dX5_answers_69 : decode cX5_answers 69 = .ok (.aload_n 0, 1) := by decide +kernel
theorem dX5_answers_70 : decode cX5_answers 70 = .ok (.getfield 29, 3) := by decide +kernel
theorem dX5_answers_73 : decode cX5_answers 73 = .ok (.iload 7, 2) := by decide +kernel
theorem dX5_answers_75 : decode cX5_answers 75 = .ok (.iaload, 1) := by decide +kernel
theorem dX5_answers_76 : decode cX5_answers 76 = .ok (.invokevirtual 159, 3) := by decide +kernel
theorem dX5_answers_79 : decode cX5_answers 79 = .ok (.lstore 8, 2) := by decide +kernel
theorem dX5_answers_81 : decode cX5_answers 81 = .ok (.lload 8, 2) := by decide +kernel
theorem dX5_answers_83 : decode cX5_answers 83 = .ok (.lload_n 2, 1) := by decide +kernel
theorem dX5_answers_84 : decode cX5_answers 84 = .ok (.land, 1) := by decide +kernel
theorem dX5_answers_85 : decode cX5_answers 85 = .ok (.lconst 0, 1) := by decide +kernel
theorem dX5_answers_86 : decode cX5_answers 86 = .ok (.lcmp, 1) := by decide +kernel
theorem dX5_answers_87 : decode cX5_answers 87 = .ok (.ifCond .eq 16, 3) := by decide +kernel
theorem dX5_answers_90 : decode cX5_answers 90 = .ok (.lload 5, 2) := by decide +kernel
theorem dX5_answers_92 : decode cX5_answers 92 = .ok (.lload 8, 2) := by decide +kernel
theorem dX5_answers_94 : decode cX5_answers 94 = .ok (.lload_n 2, 1) := by decide +kernel
theorem dX5_answers_95 : decode cX5_answers 95 = .ok (.ldc2_w 138, 3) := by decide +kernel
theorem dX5_answers_98 : decode cX5_answers 98 = .ok (.lxor, 1) := by decide +kernel
theorem dX5_answers_99 : decode cX5_answers 99 = .ok (.land, 1) := by decide +kernel
theorem dX5_answers_100 : decode cX5_answers 100 = .ok (.lor, 1) := by decide +kernel
theorem dX5_answers_101 : decode cX5_answers 101 = .ok (.lstore 5, 2) := by decide +kernel
theorem dX5_answers_103 : decode cX5_answers 103 = .ok (.iinc 7 1, 3) := by decide +kernel
theorem dX5_answers_106 : decode cX5_answers 106 = .ok (.goto (-53), 3) := by decide +kernel
theorem dX5_answers_109 : decode cX5_answers 109 = .ok (.lload 5, 2) := by decide +kernel
theorem dX5_answers_111 : decode cX5_answers 111 = .ok (.lreturn, 1) := by decide +kernel
theorem dX5_fillings_0 : decode cX5_fillings 0 = .ok (.iload_n 1, 1) := by decide +kernel
theorem dX5_fillings_1 : decode cX5_fillings 1 = .ok (.invokestatic 125, 3) := by decide +kernel
theorem dX5_fillings_4 : decode cX5_fillings 4 = .ok (.ifCond .ne 6, 3) := by decide +kernel
theorem dX5_fillings_7 : decode cX5_fillings 7 = .ok (.bipush (-11), 2) := by decide +kernel
theorem dX5_fillings_9 : decode cX5_fillings 9 = .ok (.ireturn, 1) := by decide +kernel
theorem dX5_fillings_10 : decode cX5_fillings 10 = .ok (.aload_n 0, 1) := by decide +kernel
theorem dX5_fillings_11 : decode cX5_fillings 11 = .ok (.bipush 12, 2) := by decide +kernel
theorem dX5_fillings_13 : decode cX5_fillings 13 = .ok (.invokevirtual 165, 3) := by decide +kernel
theorem dX5_fillings_16 : decode cX5_fillings 16 = .ok (.ifCond .ne 6, 3) := by decide +kernel
theorem dX5_fillings_19 : decode cX5_fillings 19 = .ok (.bipush (-13), 2) := by decide +kernel
theorem dX5_fillings_21 : decode cX5_fillings 21 = .ok (.ireturn, 1) := by decide +kernel
theorem dX5_fillings_22 : decode cX5_fillings 22 = .ok (.aload_n 0, 1) := by decide +kernel
theorem dX5_fillings_23 : decode cX5_fillings 23 = .ok (.getfield 25, 3) := by decide +kernel
theorem dX5_fillings_26 : decode cX5_fillings 26 = .ok (.aload_n 0, 1) := by decide +kernel
theorem dX5_fillings_27 : decode cX5_fillings 27 = .ok (.getfield 52, 3) := by decide +kernel
theorem dX5_fillings_30 : decode cX5_fillings 30 = .ok (.invokevirtual 168, 3) := by decide +kernel
theorem dX5_fillings_33 : decode cX5_fillings 33 = .ok (.aload_n 0, 1) := by decide +kernel
theorem dX5_fillings_34 : decode cX5_fillings 34 = .ok (.getfield 25, 3) := by decide +kernel
theorem dX5_fillings_37 : decode cX5_fillings 37 = .ok (.invokevirtual 172, 3) := by decide +kernel
theorem dX5_fillings_40 : decode cX5_fillings 40 = .ok (.istore_n 2, 1) := by decide +kernel
theorem dX5_fillings_41 : decode cX5_fillings 41 = .ok (.iload_n 1, 1) := by decide +kernel
theorem dX5_fillings_42 : decode cX5_fillings 42 = .ok (.ifCond .ne 7, 3) := by decide +kernel
theorem dX5_fillings_45 : decode cX5_fillings 45 = .ok (.iload_n 2, 1) := by decide +kernel
theorem dX5_fillings_46 : decode cX5_fillings 46 = .ok (.goto 12, 3) := by decide +kernel
theorem dX5_fillings_49 : decode cX5_fillings 49 = .ok (.aload_n 0, 1) := by decide +kernel
theorem dX5_fillings_50 : decode cX5_fillings 50 = .ok (.getfield 25, 3) := by decide +kernel
theorem dX5_fillings_53 : decode cX5_fillings 53 = .ok (.invokevirtual 175, 3) := by decide +kernel
theorem dX5_fillings_56 : decode cX5_fillings 56 = .ok (.iload_n 2, 1) := by decide +kernel
theorem dX5_fillings_57 : decode cX5_fillings 57 = .ok (.isub, 1) := by decide +kernel
theorem dX5_fillings_58 : decode cX5_fillings 58 = .ok (.ireturn, 1) := by decide +kernel
theorem dX5_weight_0 : decode cX5_weight 0 = .ok (.aload_n 0, 1) := by decide +kernel
theorem dX5_weight_1 : decode cX5_weight 1 = .ok (.iload_n 1, 1) := by decide +kernel
theorem dX5_weight_2 : decode cX5_weight 2 = .ok (.invokevirtual 80, 3) := by decide +kernel
theorem dX5_weight_5 : decode cX5_weight 5 = .ok (.ifCond .eq 14, 3) := by decide +kernel
theorem dX5_weight_8 : decode cX5_weight 8 = .ok (.aload_n 0, 1) := by decide +kernel
theorem dX5_weight_9 : decode cX5_weight 9 = .ok (.getfield 52, 3) := by decide +kernel
theorem dX5_weight_12 : decode cX5_weight 12 = .ok (.iload_n 1, 1) := by decide +kernel
theorem dX5_weight_13 : decode cX5_weight 13 = .ok (.invokevirtual 84, 3) := by decide +kernel
theorem dX5_weight_16 : decode cX5_weight 16 = .ok (.ifCond .ne 6, 3) := by decide +kernel
theorem dX5_weight_19 : decode cX5_weight 19 = .ok (.bipush (-11), 2) := by decide +kernel
theorem dX5_weight_21 : decode cX5_weight 21 = .ok (.ireturn, 1) := by decide +kernel
theorem dX5_weight_22 : decode cX5_weight 22 = .ok (.aload_n 0, 1) := by decide +kernel
theorem dX5_weight_23 : decode cX5_weight 23 = .ok (.bipush 12, 2) := by decide +kernel
theorem dX5_weight_25 : decode cX5_weight 25 = .ok (.invokevirtual 165, 3) := by decide +kernel
theorem dX5_weight_28 : decode cX5_weight 28 = .ok (.ifCond .ne 6, 3) := by decide +kernel
theorem dX5_weight_31 : decode cX5_weight 31 = .ok (.bipush (-13), 2) := by decide +kernel
theorem dX5_weight_33 : decode cX5_weight 33 = .ok (.ireturn, 1) := by decide +kernel
theorem dX5_weight_34 : decode cX5_weight 34 = .ok (.aload_n 0, 1) := by decide +kernel
theorem dX5_weight_35 : decode cX5_weight 35 = .ok (.getfield 25, 3) := by decide +kernel
theorem dX5_weight_38 : decode cX5_weight 38 = .ok (.aload_n 0, 1) := by decide +kernel
theorem dX5_weight_39 : decode cX5_weight 39 = .ok (.getfield 52, 3) := by decide +kernel
theorem dX5_weight_42 : decode cX5_weight 42 = .ok (.invokevirtual 168, 3) := by decide +kernel
theorem dX5_weight_45 : decode cX5_weight 45 = .ok (.aload_n 0, 1) := by decide +kernel
theorem dX5_weight_46 : decode cX5_weight 46 = .ok (.getfield 25, 3) := by decide +kernel
theorem dX5_weight_49 : decode cX5_weight 49 = .ok (.aload_n 0, 1) := by decide +kernel
theorem dX5_weight_50 : decode cX5_weight 50 = .ok (.getfield 52, 3) := by decide +kernel
theorem dX5_weight_53 : decode cX5_weight 53 = .ok (.invokevirtual 151, 3) := by decide +kernel
theorem dX5_weight_56 : decode cX5_weight 56 = .ok (.lconst 1, 1) := by decide +kernel
theorem dX5_weight_57 : decode cX5_weight 57 = .ok (.iload_n 1, 1) := by decide +kernel
theorem dX5_weight_58 : decode cX5_weight 58 = .ok (.lshl, 1) := by decide +kernel
theorem dX5_weight_59 : decode cX5_weight 59 = .ok (.lconst 1, 1) := by decide +kernel
theorem dX5_weight_60 : decode cX5_weight 60 = .ok (.lsub, 1) := by decide +kernel
theorem dX5_weight_61 : decode cX5_weight 61 = .ok (.land, 1) := by decide +kernel
theorem dX5_weight_62 : decode cX5_weight 62 = .ok (.invokestatic 177, 3) := by decide +kernel
theorem dX5_weight_65 : decode cX5_weight 65 = .ok (.invokevirtual 182, 3) := by decide +kernel
theorem dX5_weight_68 : decode cX5_weight 68 = .ok (.ireturn, 1) := by decide +kernel
theorem dX5_dead_0 : decode cX5_dead 0 = .ok (.aload_n 0, 1) := by decide +kernel
theorem dX5_dead_1 : decode cX5_dead 1 = .ok (.bipush 12, 2) := by decide +kernel
theorem dX5_dead_3 : decode cX5_dead 3 = .ok (.invokevirtual 165, 3) := by decide +kernel
theorem dX5_dead_6 : decode cX5_dead 6 = .ok (.ifCond .ne 7, 3) := by decide +kernel
theorem dX5_dead_9 : decode cX5_dead 9 = .ok (.ldc2_w 185, 3) := by decide +kernel
theorem dX5_dead_12 : decode cX5_dead 12 = .ok (.lreturn, 1) := by decide +kernel
theorem dX5_dead_13 : decode cX5_dead 13 = .ok (.aload_n 0, 1) := by decide +kernel
theorem dX5_dead_14 : decode cX5_dead 14 = .ok (.getfield 25, 3) := by decide +kernel
theorem dX5_dead_17 : decode cX5_dead 17 = .ok (.aload_n 0, 1) := by decide +kernel
theorem dX5_dead_18 : decode cX5_dead 18 = .ok (.getfield 52, 3) := by decide +kernel
theorem dX5_dead_21 : decode cX5_dead 21 = .ok (.invokevirtual 168, 3) := by decide +kernel
theorem dX5_dead_24 : decode cX5_dead 24 = .ok (.aload_n 0, 1) := by decide +kernel
theorem dX5_dead_25 : decode cX5_dead 25 = .ok (.getfield 52, 3) := by decide +kernel
theorem dX5_dead_28 : decode cX5_dead 28 = .ok (.invokevirtual 151, 3) := by decide +kernel
theorem dX5_dead_31 : decode cX5_dead 31 = .ok (.lstore_n 1, 1) := by decide +kernel
theorem dX5_dead_32 : decode cX5_dead 32 = .ok (.lconst 0, 1) := by decide +kernel
theorem dX5_dead_33 : decode cX5_dead 33 = .ok (.lstore_n 3, 1) := by decide +kernel
theorem dX5_dead_34 : decode cX5_dead 34 = .ok (.iconst 0, 1) := by decide +kernel
theorem dX5_dead_35 : decode cX5_dead 35 = .ok (.istore 5, 2) := by decide +kernel
theorem dX5_dead_37 : decode cX5_dead 37 = .ok (.iload 5, 2) := by decide +kernel
theorem dX5_dead_39 : decode cX5_dead 39 = .ok (.bipush 12, 2) := by decide +kernel
theorem dX5_dead_41 : decode cX5_dead 41 = .ok (.if_icmp .ge 40, 3) := by decide +kernel
theorem dX5_dead_44 : decode cX5_dead 44 = .ok (.lload_n 1, 1) := by decide +kernel
theorem dX5_dead_45 : decode cX5_dead 45 = .ok (.lconst 0, 1) := by decide +kernel
theorem dX5_dead_46 : decode cX5_dead 46 = .ok (.lcmp, 1) := by decide +kernel
theorem dX5_dead_47 : decode cX5_dead 47 = .ok (.ifCond .eq 34, 3) := by decide +kernel
theorem dX5_dead_50 : decode cX5_dead 50 = .ok (.aload_n 0, 1) := by decide +kernel
theorem dX5_dead_51 : decode cX5_dead 51 = .ok (.getfield 25, 3) := by decide +kernel
theorem dX5_dead_54 : decode cX5_dead 54 = .ok (.iload 5, 2) := by decide +kernel
theorem dX5_dead_56 : decode cX5_dead 56 = .ok (.invokevirtual 182, 3) := by decide +kernel
theorem dX5_dead_59 : decode cX5_dead 59 = .ok (.ifCond .ne 10, 3) := by decide +kernel
theorem dX5_dead_62 : decode cX5_dead 62 = .ok (.lload_n 3, 1) := by decide +kernel
theorem dX5_dead_63 : decode cX5_dead 63 = .ok (.lload_n 1, 1) := by decide +kernel
theorem dX5_dead_64 : decode cX5_dead 64 = .ok (.lload_n 1, 1) := by decide +kernel
theorem dX5_dead_65 : decode cX5_dead 65 = .ok (.lneg, 1) := by decide +kernel
theorem dX5_dead_66 : decode cX5_dead 66 = .ok (.land, 1) := by decide +kernel
theorem dX5_dead_67 : decode cX5_dead 67 = .ok (.lor, 1) := by decide +kernel
theorem dX5_dead_68 : decode cX5_dead 68 = .ok (.lstore_n 3, 1) := by decide +kernel
theorem dX5_dead_69 : decode cX5_dead 69 = .ok (.lload_n 1, 1) := by decide +kernel
theorem dX5_dead_70 : decode cX5_dead 70 = .ok (.lload_n 1, 1) := by decide +kernel
theorem dX5_dead_71 : decode cX5_dead 71 = .ok (.lconst 1, 1) := by decide +kernel
theorem dX5_dead_72 : decode cX5_dead 72 = .ok (.lsub, 1) := by decide +kernel
theorem dX5_dead_73 : decode cX5_dead 73 = .ok (.land, 1) := by decide +kernel
theorem dX5_dead_74 : decode cX5_dead 74 = .ok (.lstore_n 1, 1) := by decide +kernel
theorem dX5_dead_75 : decode cX5_dead 75 = .ok (.iinc 5 1, 3) := by decide +kernel
theorem dX5_dead_78 : decode cX5_dead 78 = .ok (.goto (-41), 3) := by decide +kernel
theorem dX5_dead_81 : decode cX5_dead 81 = .ok (.lload_n 3, 1) := by decide +kernel
theorem dX5_dead_82 : decode cX5_dead 82 = .ok (.lreturn, 1) := by decide +kernel
theorem dX5_solve_0 : decode cX5_solve 0 = .ok (.aload_n 0, 1) := by decide +kernel
theorem dX5_solve_1 : decode cX5_solve 1 = .ok (.bipush 9, 2) := by decide +kernel
theorem dX5_solve_3 : decode cX5_solve 3 = .ok (.invokevirtual 165, 3) := by decide +kernel
theorem dX5_solve_6 : decode cX5_solve 6 = .ok (.ifCond .ne 6, 3) := by decide +kernel
theorem dX5_solve_9 : decode cX5_solve 9 = .ok (.bipush (-13), 2) := by decide +kernel
theorem dX5_solve_11 : decode cX5_solve 11 = .ok (.ireturn, 1) := by decide +kernel
theorem dX5_solve_12 : decode cX5_solve 12 = .ok (.aload_n 0, 1) := by decide +kernel
theorem dX5_solve_13 : decode cX5_solve 13 = .ok (.invokevirtual 187, 3) := by decide +kernel
theorem dX5_solve_16 : decode cX5_solve 16 = .ok (.invokestatic 190, 3) := by decide +kernel
theorem dX5_solve_19 : decode cX5_solve 19 = .ok (.ifCond .eq 7, 3) := by decide +kernel
theorem dX5_solve_22 : decode cX5_solve 22 = .ok (.iconst 0, 1) := by decide +kernel
theorem dX5_solve_23 : decode cX5_solve 23 = .ok (.goto 4, 3) := by decide +kernel
theorem dX5_solve_26 : decode cX5_solve 26 = .ok (.iconst 1, 1) := by decide +kernel
theorem dX5_solve_27 : decode cX5_solve 27 = .ok (.ireturn, 1) := by decide +kernel
theorem dX5_winningMoves_0 : decode cX5_winningMoves 0 = .ok (.aload_n 0, 1) := by decide +kernel
theorem dX5_winningMoves_1 : decode cX5_winningMoves 1 = .ok (.bipush 9, 2) := by decide +kernel
theorem dX5_winningMoves_3 : decode cX5_winningMoves 3 = .ok (.invokevirtual 165, 3) := by decide +kernel
theorem dX5_winningMoves_6 : decode cX5_winningMoves 6 = .ok (.ifCond .ne 7, 3) := by decide +kernel
theorem dX5_winningMoves_9 : decode cX5_winningMoves 9 = .ok (.ldc2_w 185, 3) := by decide +kernel
theorem dX5_winningMoves_12 : decode cX5_winningMoves 12 = .ok (.lreturn, 1) := by decide +kernel
theorem dX5_winningMoves_13 : decode cX5_winningMoves 13 = .ok (.aload_n 0, 1) := by decide +kernel
theorem dX5_winningMoves_14 : decode cX5_winningMoves 14 = .ok (.getfield 52, 3) := by decide +kernel
theorem dX5_winningMoves_17 : decode cX5_winningMoves 17 = .ok (.getfield 66, 3) := by decide +kernel
theorem dX5_winningMoves_20 : decode cX5_winningMoves 20 = .ok (.astore_n 1, 1) := by decide +kernel
theorem dX5_winningMoves_21 : decode cX5_winningMoves 21 = .ok (.aload_n 0, 1) := by decide +kernel
theorem dX5_winningMoves_22 : decode cX5_winningMoves 22 = .ok (.getfield 62, 3) := by decide +kernel
theorem dX5_winningMoves_25 : decode cX5_winningMoves 25 = .ok (.aload_n 1, 1) := by decide +kernel
theorem dX5_winningMoves_26 : decode cX5_winningMoves 26 = .ok (.aload_n 1, 1) := by decide +kernel
theorem dX5_winningMoves_27 : decode cX5_winningMoves 27 = .ok (.getfield 193, 3) := by decide +kernel
theorem dX5_winningMoves_30 : decode cX5_winningMoves 30 = .ok (.aload_n 1, 1) := by decide +kernel
theorem dX5_winningMoves_31 : decode cX5_winningMoves 31 = .ok (.getfield 197, 3) := by decide +kernel
theorem dX5_winningMoves_34 : decode cX5_winningMoves 34 = .ok (.aload_n 0, 1) := by decide +kernel
theorem dX5_winningMoves_35 : decode cX5_winningMoves 35 = .ok (.getfield 52, 3) := by decide +kernel
theorem dX5_winningMoves_38 : decode cX5_winningMoves 38 = .ok (.invokevirtual 151, 3) := by decide +kernel
theorem dX5_winningMoves_41 : decode cX5_winningMoves 41 = .ok (.invokevirtual 200, 3) := by decide +kernel
theorem dX5_winningMoves_44 : decode cX5_winningMoves 44 = .ok (.aload_n 0, 1) := by decide +kernel
theorem dX5_winningMoves_45 : decode cX5_winningMoves 45 = .ok (.getfield 62, 3) := by decide +kernel
theorem dX5_winningMoves_48 : decode cX5_winningMoves 48 = .ok (.aload_n 0, 1) := by decide +kernel
theorem dX5_winningMoves_49 : decode cX5_winningMoves 49 = .ok (.getfield 52, 3) := by decide +kernel
theorem dX5_winningMoves_52 : decode cX5_winningMoves 52 = .ok (.iconst 0, 1) := by decide +kernel
theorem dX5_winningMoves_53 : decode cX5_winningMoves 53 = .ok (.invokevirtual 101, 3) := by decide +kernel
theorem dX5_winningMoves_56 : decode cX5_winningMoves 56 = .ok (.aload_n 0, 1) := by decide +kernel
theorem dX5_winningMoves_57 : decode cX5_winningMoves 57 = .ok (.getfield 52, 3) := by decide +kernel
theorem dX5_winningMoves_60 : decode cX5_winningMoves 60 = .ok (.invokevirtual 151, 3) := by decide +kernel
theorem dX5_winningMoves_63 : decode cX5_winningMoves 63 = .ok (.aload_n 0, 1) := by decide +kernel
theorem dX5_winningMoves_64 : decode cX5_winningMoves 64 = .ok (.getfield 52, 3) := by decide +kernel
theorem dX5_winningMoves_67 : decode cX5_winningMoves 67 = .ok (.invokevirtual 122, 3) := by decide +kernel
theorem dX5_winningMoves_70 : decode cX5_winningMoves 70 = .ok (.ifCond .ne 7, 3) := by decide +kernel
theorem dX5_winningMoves_73 : decode cX5_winningMoves 73 = .ok (.iconst 1, 1) := by decide +kernel
theorem dX5_winningMoves_74 : decode cX5_winningMoves 74 = .ok (.goto 4, 3) := by decide +kernel
theorem dX5_winningMoves_77 : decode cX5_winningMoves 77 = .ok (.iconst 0, 1) := by decide +kernel
theorem dX5_winningMoves_78 : decode cX5_winningMoves 78 = .ok (.invokevirtual 204, 3) := by decide +kernel
theorem dX5_winningMoves_81 : decode cX5_winningMoves 81 = .ok (.lreturn, 1) := by decide +kernel
theorem dX5_duration_0 : decode cX5_duration 0 = .ok (.aload_n 0, 1) := by decide +kernel
theorem dX5_duration_1 : decode cX5_duration 1 = .ok (.bipush 9, 2) := by decide +kernel
theorem dX5_duration_3 : decode cX5_duration 3 = .ok (.invokevirtual 165, 3) := by decide +kernel
theorem dX5_duration_6 : decode cX5_duration 6 = .ok (.ifCond .ne 6, 3) := by decide +kernel
theorem dX5_duration_9 : decode cX5_duration 9 = .ok (.bipush (-13), 2) := by decide +kernel
theorem dX5_duration_11 : decode cX5_duration 11 = .ok (.ireturn, 1) := by decide +kernel
theorem dX5_duration_12 : decode cX5_duration 12 = .ok (.aload_n 0, 1) := by decide +kernel
theorem dX5_duration_13 : decode cX5_duration 13 = .ok (.invokevirtual 187, 3) := by decide +kernel
theorem dX5_duration_16 : decode cX5_duration 16 = .ok (.invokestatic 208, 3) := by decide +kernel
theorem dX5_duration_19 : decode cX5_duration 19 = .ok (.ireturn, 1) := by decide +kernel
theorem dX5_winningOpenings_0 : decode cX5_winningOpenings 0 = .ok (.iload_n 1, 1) := by decide +kernel
theorem dX5_winningOpenings_1 : decode cX5_winningOpenings 1 = .ok (.iconst 2, 1) := by decide +kernel
theorem dX5_winningOpenings_2 : decode cX5_winningOpenings 2 = .ok (.if_icmp .lt 8, 3) := by decide +kernel
theorem dX5_winningOpenings_5 : decode cX5_winningOpenings 5 = .ok (.iload_n 1, 1) := by decide +kernel
theorem dX5_winningOpenings_6 : decode cX5_winningOpenings 6 = .ok (.iconst 3, 1) := by decide +kernel
theorem dX5_winningOpenings_7 : decode cX5_winningOpenings 7 = .ok (.if_icmp .le 7, 3) := by decide +kernel
theorem dX5_winningOpenings_10 : decode cX5_winningOpenings 10 = .ok (.ldc2_w 211, 3) := by decide +kernel
theorem dX5_winningOpenings_13 : decode cX5_winningOpenings 13 = .ok (.lreturn, 1) := by decide +kernel
theorem dX5_winningOpenings_14 : decode cX5_winningOpenings 14 = .ok (.new 44, 3) := by decide +kernel
theorem dX5_winningOpenings_17 : decode cX5_winningOpenings 17 = .ok (.dup, 1) := by decide +kernel
theorem dX5_winningOpenings_18 : decode cX5_winningOpenings 18 = .ok (.iload_n 1, 1) := by decide +kernel
theorem dX5_winningOpenings_19 : decode cX5_winningOpenings 19 = .ok (.invokespecial 46, 3) := by decide +kernel
theorem dX5_winningOpenings_22 : decode cX5_winningOpenings 22 = .ok (.astore_n 2, 1) := by decide +kernel
theorem dX5_winningOpenings_23 : decode cX5_winningOpenings 23 = .ok (.aload_n 0, 1) := by decide +kernel
theorem dX5_winningOpenings_24 : decode cX5_winningOpenings 24 = .ok (.getfield 62, 3) := by decide +kernel
theorem dX5_winningOpenings_27 : decode cX5_winningOpenings 27 = .ok (.aload_n 2, 1) := by decide +kernel
theorem dX5_winningOpenings_28 : decode cX5_winningOpenings 28 = .ok (.aload_n 2, 1) := by decide +kernel
theorem dX5_winningOpenings_29 : decode cX5_winningOpenings 29 = .ok (.getfield 193, 3) := by decide +kernel
theorem dX5_winningOpenings_32 : decode cX5_winningOpenings 32 = .ok (.aload_n 2, 1) := by decide +kernel
theorem dX5_winningOpenings_33 : decode cX5_winningOpenings 33 = .ok (.getfield 197, 3) := by decide +kernel
theorem dX5_winningOpenings_36 : decode cX5_winningOpenings 36 = .ok (.aload_n 2, 1) := by decide +kernel
theorem dX5_winningOpenings_37 : decode cX5_winningOpenings 37 = .ok (.getfield 213, 3) := by decide +kernel
theorem dX5_winningOpenings_40 : decode cX5_winningOpenings 40 = .ok (.invokevirtual 200, 3) := by decide +kernel
theorem dX5_winningOpenings_43 : decode cX5_winningOpenings 43 = .ok (.aload_n 0, 1) := by decide +kernel
theorem dX5_winningOpenings_44 : decode cX5_winningOpenings 44 = .ok (.getfield 62, 3) := by decide +kernel
theorem dX5_winningOpenings_47 : decode cX5_winningOpenings 47 = .ok (.lconst 0, 1) := by decide +kernel
theorem dX5_winningOpenings_48 : decode cX5_winningOpenings 48 = .ok (.aload_n 2, 1) := by decide +kernel
theorem dX5_winningOpenings_49 : decode cX5_winningOpenings 49 = .ok (.getfield 213, 3) := by decide +kernel
theorem dX5_winningOpenings_52 : decode cX5_winningOpenings 52 = .ok (.iconst 1, 1) := by decide +kernel
theorem dX5_winningOpenings_53 : decode cX5_winningOpenings 53 = .ok (.invokevirtual 204, 3) := by decide +kernel
theorem dX5_winningOpenings_56 : decode cX5_winningOpenings 56 = .ok (.lreturn, 1) := by decide +kernel
theorem dX5_strength_0 : decode cX5_strength 0 = .ok (.aload_n 0, 1) := by decide +kernel
theorem dX5_strength_1 : decode cX5_strength 1 = .ok (.iload_n 1, 1) := by decide +kernel
theorem dX5_strength_2 : decode cX5_strength 2 = .ok (.iload_n 2, 1) := by decide +kernel
theorem dX5_strength_3 : decode cX5_strength 3 = .ok (.iload_n 3, 1) := by decide +kernel
theorem dX5_strength_4 : decode cX5_strength 4 = .ok (.lload 4, 2) := by decide +kernel
theorem dX5_strength_6 : decode cX5_strength 6 = .ok (.bipush 8, 2) := by decide +kernel
theorem dX5_strength_8 : decode cX5_strength 8 = .ok (.invokevirtual 216, 3) := by decide +kernel
theorem dX5_strength_11 : decode cX5_strength 11 = .ok (.istore 6, 2) := by decide +kernel
theorem dX5_strength_13 : decode cX5_strength 13 = .ok (.iload 6, 2) := by decide +kernel
theorem dX5_strength_15 : decode cX5_strength 15 = .ok (.ifCond .ge 6, 3) := by decide +kernel
theorem dX5_strength_18 : decode cX5_strength 18 = .ok (.iload 6, 2) := by decide +kernel
theorem dX5_strength_20 : decode cX5_strength 20 = .ok (.ireturn, 1) := by decide +kernel
theorem dX5_strength_21 : decode cX5_strength 21 = .ok (.aload_n 0, 1) := by decide +kernel
theorem dX5_strength_22 : decode cX5_strength 22 = .ok (.iload_n 1, 1) := by decide +kernel
theorem dX5_strength_23 : decode cX5_strength 23 = .ok (.iload_n 2, 1) := by decide +kernel
theorem dX5_strength_24 : decode cX5_strength 24 = .ok (.iload_n 3, 1) := by decide +kernel
theorem dX5_strength_25 : decode cX5_strength 25 = .ok (.lload 4, 2) := by decide +kernel
theorem dX5_strength_27 : decode cX5_strength 27 = .ok (.iconst 0, 1) := by decide +kernel
theorem dX5_strength_28 : decode cX5_strength 28 = .ok (.invokevirtual 220, 3) := by decide +kernel
theorem dX5_strength_31 : decode cX5_strength 31 = .ok (.ifCond .eq 5, 3) := by decide +kernel
theorem dX5_strength_34 : decode cX5_strength 34 = .ok (.iconst 2, 1) := by decide +kernel
theorem dX5_strength_35 : decode cX5_strength 35 = .ok (.ireturn, 1) := by decide +kernel
theorem dX5_strength_36 : decode cX5_strength 36 = .ok (.aload_n 0, 1) := by decide +kernel
theorem dX5_strength_37 : decode cX5_strength 37 = .ok (.iload_n 1, 1) := by decide +kernel
theorem dX5_strength_38 : decode cX5_strength 38 = .ok (.iload_n 2, 1) := by decide +kernel
theorem dX5_strength_39 : decode cX5_strength 39 = .ok (.iload_n 3, 1) := by decide +kernel
theorem dX5_strength_40 : decode cX5_strength 40 = .ok (.lload 4, 2) := by decide +kernel
theorem dX5_strength_42 : decode cX5_strength 42 = .ok (.iconst 1, 1) := by decide +kernel
theorem dX5_strength_43 : decode cX5_strength 43 = .ok (.invokevirtual 220, 3) := by decide +kernel
theorem dX5_strength_46 : decode cX5_strength 46 = .ok (.ifCond .eq 7, 3) := by decide +kernel
theorem dX5_strength_49 : decode cX5_strength 49 = .ok (.iconst 1, 1) := by decide +kernel
theorem dX5_strength_50 : decode cX5_strength 50 = .ok (.goto 4, 3) := by decide +kernel
theorem dX5_strength_53 : decode cX5_strength 53 = .ok (.iconst 0, 1) := by decide +kernel
theorem dX5_strength_54 : decode cX5_strength 54 = .ok (.ireturn, 1) := by decide +kernel
theorem dX5_smallestFull_0 : decode cX5_smallestFull 0 = .ok (.aload_n 0, 1) := by decide +kernel
theorem dX5_smallestFull_1 : decode cX5_smallestFull 1 = .ok (.iload_n 1, 1) := by decide +kernel
theorem dX5_smallestFull_2 : decode cX5_smallestFull 2 = .ok (.iload_n 2, 1) := by decide +kernel
theorem dX5_smallestFull_3 : decode cX5_smallestFull 3 = .ok (.iload_n 3, 1) := by decide +kernel
theorem dX5_smallestFull_4 : decode cX5_smallestFull 4 = .ok (.lload 4, 2) := by decide +kernel
theorem dX5_smallestFull_6 : decode cX5_smallestFull 6 = .ok (.bipush 6, 2) := by decide +kernel
theorem dX5_smallestFull_8 : decode cX5_smallestFull 8 = .ok (.invokevirtual 216, 3) := by decide +kernel
theorem dX5_smallestFull_11 : decode cX5_smallestFull 11 = .ok (.istore 6, 2) := by decide +kernel
theorem dX5_smallestFull_13 : decode cX5_smallestFull 13 = .ok (.iload 6, 2) := by decide +kernel
theorem dX5_smallestFull_15 : decode cX5_smallestFull 15 = .ok (.ifCond .ge 6, 3) := by decide +kernel
theorem dX5_smallestFull_18 : decode cX5_smallestFull 18 = .ok (.iload 6, 2) := by decide +kernel
theorem dX5_smallestFull_20 : decode cX5_smallestFull 20 = .ok (.ireturn, 1) := by decide +kernel
theorem dX5_smallestFull_21 : decode cX5_smallestFull 21 = .ok (.bipush 7, 2) := by decide +kernel
theorem dX5_smallestFull_23 : decode cX5_smallestFull 23 = .ok (.istore 7, 2) := by decide +kernel
theorem dX5_smallestFull_25 : decode cX5_smallestFull 25 = .ok (.iconst 1, 1) := by decide +kernel
theorem dX5_smallestFull_26 : decode cX5_smallestFull 26 = .ok (.lload 4, 2) := by decide +kernel
theorem dX5_smallestFull_28 : decode cX5_smallestFull 28 = .ok (.invokestatic 177, 3) := by decide +kernel
theorem dX5_smallestFull_31 : decode cX5_smallestFull 31 = .ok (.ishl, 1) := by decide +kernel
theorem dX5_smallestFull_32 : decode cX5_smallestFull 32 = .ok (.istore 8, 2) := by decide +kernel
theorem dX5_smallestFull_34 : decode cX5_smallestFull 34 = .ok (.lconst 0, 1) := by decide +kernel
theorem dX5_smallestFull_35 : decode cX5_smallestFull 35 = .ok (.lstore 9, 2) := by decide +kernel
theorem dX5_smallestFull_37 : decode cX5_smallestFull 37 = .ok (.iconst 0, 1) := by decide +kernel
theorem dX5_smallestFull_38 : decode cX5_smallestFull 38 = .ok (.istore 11, 2) := by decide +kernel
theorem dX5_smallestFull_40 : decode cX5_smallestFull 40 = .ok (.iload 11, 2) := by decide +kernel
theorem dX5_smallestFull_42 : decode cX5_smallestFull 42 = .ok (.iload 8, 2) := by decide +kernel
theorem dX5_smallestFull_44 : decode cX5_smallestFull 44 = .ok (.if_icmp .ge 49, 3) := by decide +kernel
theorem dX5_smallestFull_47 : decode cX5_smallestFull 47 = .ok (.lload 9, 2) := by decide +kernel
theorem dX5_smallestFull_49 : decode cX5_smallestFull 49 = .ok (.invokestatic 177, 3) := by decide +kernel
theorem dX5_smallestFull_52 : decode cX5_smallestFull 52 = .ok (.istore 12, 2) := by decide +kernel
theorem dX5_smallestFull_54 : decode cX5_smallestFull 54 = .ok (.iload 12, 2) := by decide +kernel
theorem dX5_smallestFull_56 : decode cX5_smallestFull 56 = .ok (.iload 7, 2) := by decide +kernel
theorem dX5_smallestFull_58 : decode cX5_smallestFull 58 = .ok (.if_icmp .ge 20, 3) := by decide +kernel
theorem dX5_smallestFull_61 : decode cX5_smallestFull 61 = .ok (.aload_n 0, 1) := by decide +kernel
theorem dX5_smallestFull_62 : decode cX5_smallestFull 62 = .ok (.iload_n 1, 1) := by decide +kernel
theorem dX5_smallestFull_63 : decode cX5_smallestFull 63 = .ok (.iload_n 2, 1) := by decide +kernel
theorem dX5_smallestFull_64 : decode cX5_smallestFull 64 = .ok (.iload_n 3, 1) := by decide +kernel
theorem dX5_smallestFull_65 : decode cX5_smallestFull 65 = .ok (.lload 9, 2) := by decide +kernel
theorem dX5_smallestFull_67 : decode cX5_smallestFull 67 = .ok (.iconst 0, 1) := by decide +kernel
theorem dX5_smallestFull_68 : decode cX5_smallestFull 68 = .ok (.invokevirtual 220, 3) := by decide +kernel
theorem dX5_smallestFull_71 : decode cX5_smallestFull 71 = .ok (.ifCond .eq 7, 3) := by decide +kernel
theorem dX5_smallestFull_74 : decode cX5_smallestFull 74 = .ok (.iload 12, 2) := by decide +kernel
theorem dX5_smallestFull_76 : decode cX5_smallestFull 76 = .ok (.istore 7, 2) := by decide +kernel
theorem dX5_smallestFull_78 : decode cX5_smallestFull 78 = .ok (.lload 9, 2) := by decide +kernel
theorem dX5_smallestFull_80 : decode cX5_smallestFull 80 = .ok (.lload 4, 2) := by decide +kernel
theorem dX5_smallestFull_82 : decode cX5_smallestFull 82 = .ok (.invokestatic 224, 3) := by decide +kernel
theorem dX5_smallestFull_85 : decode cX5_smallestFull 85 = .ok (.lstore 9, 2) := by decide +kernel
theorem dX5_smallestFull_87 : decode cX5_smallestFull 87 = .ok (.iinc 11 1, 3) := by decide +kernel
theorem dX5_smallestFull_90 : decode cX5_smallestFull 90 = .ok (.goto (-50), 3) := by decide +kernel
theorem dX5_smallestFull_93 : decode cX5_smallestFull 93 = .ok (.iload 7, 2) := by decide +kernel
theorem dX5_smallestFull_95 : decode cX5_smallestFull 95 = .ok (.bipush 6, 2) := by decide +kernel
theorem dX5_smallestFull_97 : decode cX5_smallestFull 97 = .ok (.if_icmp .gt 8, 3) := by decide +kernel
theorem dX5_smallestFull_100 : decode cX5_smallestFull 100 = .ok (.iload 7, 2) := by decide +kernel
theorem dX5_smallestFull_102 : decode cX5_smallestFull 102 = .ok (.goto 5, 3) := by decide +kernel
theorem dX5_smallestFull_105 : decode cX5_smallestFull 105 = .ok (.bipush (-15), 2) := by decide +kernel
theorem dX5_smallestFull_107 : decode cX5_smallestFull 107 = .ok (.ireturn, 1) := by decide +kernel
theorem dX5_addThreat_0 : decode cX5_addThreat 0 = .ok (.iload_n 1, 1) := by decide +kernel
theorem dX5_addThreat_1 : decode cX5_addThreat 1 = .ok (.ifCond .ne 7, 3) := by decide +kernel
theorem dX5_addThreat_4 : decode cX5_addThreat 4 = .ok (.iconst (-1), 1) := by decide +kernel
theorem dX5_addThreat_5 : decode cX5_addThreat 5 = .ok (.goto 5, 3) := by decide +kernel
theorem dX5_addThreat_8 : decode cX5_addThreat 8 = .ok (.bipush (-3), 2) := by decide +kernel
theorem dX5_addThreat_10 : decode cX5_addThreat 10 = .ok (.istore 4, 2) := by decide +kernel
theorem dX5_addThreat_12 : decode cX5_addThreat 12 = .ok (.iload_n 1, 1) := by decide +kernel
theorem dX5_addThreat_13 : decode cX5_addThreat 13 = .ok (.ifCond .ne 8, 3) := by decide +kernel
theorem dX5_addThreat_16 : decode cX5_addThreat 16 = .ok (.bipush (-2), 2) := by decide +kernel
theorem dX5_addThreat_18 : decode cX5_addThreat 18 = .ok (.goto 5, 3) := by decide +kernel
theorem dX5_addThreat_21 : decode cX5_addThreat 21 = .ok (.bipush (-4), 2) := by decide +kernel
theorem dX5_addThreat_23 : decode cX5_addThreat 23 = .ok (.istore 5, 2) := by decide +kernel
theorem dX5_addThreat_25 : decode cX5_addThreat 25 = .ok (.aload_n 0, 1) := by decide +kernel
theorem dX5_addThreat_26 : decode cX5_addThreat 26 = .ok (.iload_n 1, 1) := by decide +kernel
theorem dX5_addThreat_27 : decode cX5_addThreat 27 = .ok (.iload 4, 2) := by decide +kernel
theorem dX5_addThreat_29 : decode cX5_addThreat 29 = .ok (.iload 5, 2) := by decide +kernel
theorem dX5_addThreat_31 : decode cX5_addThreat 31 = .ok (.lload_n 2, 1) := by decide +kernel
theorem dX5_addThreat_32 : decode cX5_addThreat 32 = .ok (.bipush 8, 2) := by decide +kernel
theorem dX5_addThreat_34 : decode cX5_addThreat 34 = .ok (.invokevirtual 216, 3) := by decide +kernel
theorem dX5_addThreat_37 : decode cX5_addThreat 37 = .ok (.istore 6, 2) := by decide +kernel
theorem dX5_addThreat_39 : decode cX5_addThreat 39 = .ok (.iload 6, 2) := by decide +kernel
theorem dX5_addThreat_41 : decode cX5_addThreat 41 = .ok (.ifCond .ge 6, 3) := by decide +kernel
theorem dX5_addThreat_44 : decode cX5_addThreat 44 = .ok (.iload 6, 2) := by decide +kernel
theorem dX5_addThreat_46 : decode cX5_addThreat 46 = .ok (.ireturn, 1) := by decide +kernel
theorem dX5_addThreat_47 : decode cX5_addThreat 47 = .ok (.aload_n 0, 1) := by decide +kernel
theorem dX5_addThreat_48 : decode cX5_addThreat 48 = .ok (.iload_n 1, 1) := by decide +kernel
theorem dX5_addThreat_49 : decode cX5_addThreat 49 = .ok (.iload 4, 2) := by decide +kernel
theorem dX5_addThreat_51 : decode cX5_addThreat 51 = .ok (.iload 5, 2) := by decide +kernel
theorem dX5_addThreat_53 : decode cX5_addThreat 53 = .ok (.lload_n 2, 1) := by decide +kernel
theorem dX5_addThreat_54 : decode cX5_addThreat 54 = .ok (.iconst 1, 1) := by decide +kernel
theorem dX5_addThreat_55 : decode cX5_addThreat 55 = .ok (.invokevirtual 220, 3) := by decide +kernel
theorem dX5_addThreat_58 : decode cX5_addThreat 58 = .ok (.ifCond .ne 6, 3) := by decide +kernel
theorem dX5_addThreat_61 : decode cX5_addThreat 61 = .ok (.bipush (-13), 2) := by decide +kernel
theorem dX5_addThreat_63 : decode cX5_addThreat 63 = .ok (.ireturn, 1) := by decide +kernel
theorem dX5_addThreat_64 : decode cX5_addThreat 64 = .ok (.aload_n 0, 1) := by decide +kernel
theorem dX5_addThreat_65 : decode cX5_addThreat 65 = .ok (.getfield 77, 3) := by decide +kernel
theorem dX5_addThreat_68 : decode cX5_addThreat 68 = .ok (.bipush 6, 2) := by decide +kernel
theorem dX5_addThreat_70 : decode cX5_addThreat 70 = .ok (.if_icmp .lt 6, 3) := by decide +kernel
theorem dX5_addThreat_73 : decode cX5_addThreat 73 = .ok (.bipush (-14), 2) := by decide +kernel
theorem dX5_addThreat_75 : decode cX5_addThreat 75 = .ok (.ireturn, 1) := by decide +kernel
theorem dX5_addThreat_76 : decode cX5_addThreat 76 = .ok (.aload_n 0, 1) := by decide +kernel
theorem dX5_addThreat_77 : decode cX5_addThreat 77 = .ok (.getfield 33, 3) := by decide +kernel
theorem dX5_addThreat_80 : decode cX5_addThreat 80 = .ok (.aload_n 0, 1) := by decide +kernel
theorem dX5_addThreat_81 : decode cX5_addThreat 81 = .ok (.getfield 77, 3) := by decide +kernel
theorem dX5_addThreat_84 : decode cX5_addThreat 84 = .ok (.iload_n 1, 1) := by decide +kernel
theorem dX5_addThreat_85 : decode cX5_addThreat 85 = .ok (.iastore, 1) := by decide +kernel
theorem dX5_addThreat_86 : decode cX5_addThreat 86 = .ok (.aload_n 0, 1) := by decide +kernel
theorem dX5_addThreat_87 : decode cX5_addThreat 87 = .ok (.getfield 36, 3) := by decide +kernel
theorem dX5_addThreat_90 : decode cX5_addThreat 90 = .ok (.aload_n 0, 1) := by decide +kernel
theorem dX5_addThreat_91 : decode cX5_addThreat 91 = .ok (.getfield 77, 3) := by decide +kernel
theorem dX5_addThreat_94 : decode cX5_addThreat 94 = .ok (.lload_n 2, 1) := by decide +kernel
theorem dX5_addThreat_95 : decode cX5_addThreat 95 = .ok (.lastore, 1) := by decide +kernel
theorem dX5_addThreat_96 : decode cX5_addThreat 96 = .ok (.aload_n 0, 1) := by decide +kernel
theorem dX5_addThreat_97 : decode cX5_addThreat 97 = .ok (.dup, 1) := by decide +kernel
theorem dX5_addThreat_98 : decode cX5_addThreat 98 = .ok (.getfield 77, 3) := by decide +kernel
theorem dX5_addThreat_101 : decode cX5_addThreat 101 = .ok (.iconst 1, 1) := by decide +kernel
theorem dX5_addThreat_102 : decode cX5_addThreat 102 = .ok (.iadd, 1) := by decide +kernel
theorem dX5_addThreat_103 : decode cX5_addThreat 103 = .ok (.putfield 77, 3) := by decide +kernel
theorem dX5_addThreat_106 : decode cX5_addThreat 106 = .ok (.aload_n 0, 1) := by decide +kernel
theorem dX5_addThreat_107 : decode cX5_addThreat 107 = .ok (.getfield 77, 3) := by decide +kernel
theorem dX5_addThreat_110 : decode cX5_addThreat 110 = .ok (.ireturn, 1) := by decide +kernel
theorem dX5_clearThreats_0 : decode cX5_clearThreats 0 = .ok (.aload_n 0, 1) := by decide +kernel
theorem dX5_clearThreats_1 : decode cX5_clearThreats 1 = .ok (.getfield 77, 3) := by decide +kernel
theorem dX5_clearThreats_4 : decode cX5_clearThreats 4 = .ok (.istore_n 1, 1) := by decide +kernel
theorem dX5_clearThreats_5 : decode cX5_clearThreats 5 = .ok (.aload_n 0, 1) := by decide +kernel
theorem dX5_clearThreats_6 : decode cX5_clearThreats 6 = .ok (.iconst 0, 1) := by decide +kernel
theorem dX5_clearThreats_7 : decode cX5_clearThreats 7 = .ok (.putfield 77, 3) := by decide +kernel
theorem dX5_clearThreats_10 : decode cX5_clearThreats 10 = .ok (.iload_n 1, 1) := by decide +kernel
theorem dX5_clearThreats_11 : decode cX5_clearThreats 11 = .ok (.ireturn, 1) := by decide +kernel
theorem dX5_threats_0 : decode cX5_threats 0 = .ok (.iload_n 1, 1) := by decide +kernel
theorem dX5_threats_1 : decode cX5_threats 1 = .ok (.invokestatic 125, 3) := by decide +kernel
theorem dX5_threats_4 : decode cX5_threats 4 = .ok (.ifCond .ne 6, 3) := by decide +kernel
theorem dX5_threats_7 : decode cX5_threats 7 = .ok (.bipush (-11), 2) := by decide +kernel
theorem dX5_threats_9 : decode cX5_threats 9 = .ok (.ireturn, 1) := by decide +kernel
theorem dX5_threats_10 : decode cX5_threats 10 = .ok (.iconst 0, 1) := by decide +kernel
theorem dX5_threats_11 : decode cX5_threats 11 = .ok (.istore_n 2, 1) := by decide +kernel
theorem dX5_threats_12 : decode cX5_threats 12 = .ok (.iconst 0, 1) := by decide +kernel
theorem dX5_threats_13 : decode cX5_threats 13 = .ok (.istore_n 3, 1) := by decide +kernel
theorem dX5_threats_14 : decode cX5_threats 14 = .ok (.iload_n 3, 1) := by decide +kernel
theorem dX5_threats_15 : decode cX5_threats 15 = .ok (.bipush 6, 2) := by decide +kernel
theorem dX5_threats_17 : decode cX5_threats 17 = .ok (.if_icmp .ge 21, 3) := by decide +kernel
theorem dX5_threats_20 : decode cX5_threats 20 = .ok (.aload_n 0, 1) := by decide +kernel
theorem dX5_threats_21 : decode cX5_threats 21 = .ok (.iload_n 3, 1) := by decide +kernel
theorem dX5_threats_22 : decode cX5_threats 22 = .ok (.iload_n 1, 1) := by decide +kernel
theorem dX5_threats_23 : decode cX5_threats 23 = .ok (.invokevirtual 227, 3) := by decide +kernel
theorem dX5_threats_26 : decode cX5_threats 26 = .ok (.ifCond .eq 6, 3) := by decide +kernel
theorem dX5_threats_29 : decode cX5_threats 29 = .ok (.iinc 2 1, 3) := by decide +kernel
theorem dX5_threats_32 : decode cX5_threats 32 = .ok (.iinc 3 1, 3) := by decide +kernel
theorem dX5_threats_35 : decode cX5_threats 35 = .ok (.goto (-21), 3) := by decide +kernel
theorem dX5_threats_38 : decode cX5_threats 38 = .ok (.iload_n 2, 1) := by decide +kernel
theorem dX5_threats_39 : decode cX5_threats 39 = .ok (.ireturn, 1) := by decide +kernel
theorem dX5_needed_0 : decode cX5_needed 0 = .ok (.iload_n 1, 1) := by decide +kernel
theorem dX5_needed_1 : decode cX5_needed 1 = .ok (.invokestatic 125, 3) := by decide +kernel
theorem dX5_needed_4 : decode cX5_needed 4 = .ok (.ifCond .ne 7, 3) := by decide +kernel
theorem dX5_needed_7 : decode cX5_needed 7 = .ok (.ldc2_w 128, 3) := by decide +kernel
theorem dX5_needed_10 : decode cX5_needed 10 = .ok (.lreturn, 1) := by decide +kernel
theorem dX5_needed_11 : decode cX5_needed 11 = .ok (.iconst 0, 1) := by decide +kernel
theorem dX5_needed_12 : decode cX5_needed 12 = .ok (.istore_n 2, 1) := by decide +kernel
theorem dX5_needed_13 : decode cX5_needed 13 = .ok (.aload_n 0, 1) := by decide +kernel
theorem dX5_needed_14 : decode cX5_needed 14 = .ok (.getfield 52, 3) := by decide +kernel
theorem dX5_needed_17 : decode cX5_needed 17 = .ok (.invokevirtual 151, 3) := by decide +kernel
theorem dX5_needed_20 : decode cX5_needed 20 = .ok (.lstore_n 3, 1) := by decide +kernel
theorem dX5_needed_21 : decode cX5_needed 21 = .ok (.iconst 0, 1) := by decide +kernel
theorem dX5_needed_22 : decode cX5_needed 22 = .ok (.istore 5, 2) := by decide +kernel
theorem dX5_needed_24 : decode cX5_needed 24 = .ok (.iload 5, 2) := by decide +kernel
theorem dX5_needed_26 : decode cX5_needed 26 = .ok (.bipush 6, 2) := by decide +kernel
theorem dX5_needed_28 : decode cX5_needed 28 = .ok (.if_icmp .ge 31, 3) := by decide +kernel
theorem dX5_needed_31 : decode cX5_needed 31 = .ok (.aload_n 0, 1) := by decide +kernel
theorem dX5_needed_32 : decode cX5_needed 32 = .ok (.iload 5, 2) := by decide +kernel
theorem dX5_needed_34 : decode cX5_needed 34 = .ok (.iload_n 1, 1) := by decide +kernel
theorem dX5_needed_35 : decode cX5_needed 35 = .ok (.invokevirtual 227, 3) := by decide +kernel
theorem dX5_needed_38 : decode cX5_needed 38 = .ok (.ifCond .eq 15, 3) := by decide +kernel
theorem dX5_needed_41 : decode cX5_needed 41 = .ok (.iconst 1, 1) := by decide +kernel
theorem dX5_needed_42 : decode cX5_needed 42 = .ok (.istore_n 2, 1) := by decide +kernel
theorem dX5_needed_43 : decode cX5_needed 43 = .ok (.lload_n 3, 1) := by decide +kernel
theorem dX5_needed_44 : decode cX5_needed 44 = .ok (.aload_n 0, 1) := by decide +kernel
theorem dX5_needed_45 : decode cX5_needed 45 = .ok (.getfield 36, 3) := by decide +kernel
theorem dX5_needed_48 : decode cX5_needed 48 = .ok (.iload 5, 2) := by decide +kernel
theorem dX5_needed_50 : decode cX5_needed 50 = .ok (.laload, 1) := by decide +kernel
theorem dX5_needed_51 : decode cX5_needed 51 = .ok (.land, 1) := by decide +kernel
theorem dX5_needed_52 : decode cX5_needed 52 = .ok (.lstore_n 3, 1) := by decide +kernel
theorem dX5_needed_53 : decode cX5_needed 53 = .ok (.iinc 5 1, 3) := by decide +kernel
theorem dX5_needed_56 : decode cX5_needed 56 = .ok (.goto (-32), 3) := by decide +kernel
theorem dX5_needed_59 : decode cX5_needed 59 = .ok (.iload_n 2, 1) := by decide +kernel
theorem dX5_needed_60 : decode cX5_needed 60 = .ok (.ifCond .eq 7, 3) := by decide +kernel
theorem dX5_needed_63 : decode cX5_needed 63 = .ok (.lload_n 3, 1) := by decide +kernel
theorem dX5_needed_64 : decode cX5_needed 64 = .ok (.goto 6, 3) := by decide +kernel
theorem dX5_needed_67 : decode cX5_needed 67 = .ok (.ldc2_w 231, 3) := by decide +kernel
theorem dX5_needed_70 : decode cX5_needed 70 = .ok (.lreturn, 1) := by decide +kernel
theorem dX5_randomGames_0 : decode cX5_randomGames 0 = .ok (.iload_n 1, 1) := by decide +kernel
theorem dX5_randomGames_1 : decode cX5_randomGames 1 = .ok (.ifCond .lt 14, 3) := by decide +kernel
theorem dX5_randomGames_4 : decode cX5_randomGames 4 = .ok (.iload_n 2, 1) := by decide +kernel
theorem dX5_randomGames_5 : decode cX5_randomGames 5 = .ok (.iconst 1, 1) := by decide +kernel
theorem dX5_randomGames_6 : decode cX5_randomGames 6 = .ok (.if_icmp .lt 9, 3) := by decide +kernel
theorem dX5_randomGames_9 : decode cX5_randomGames 9 = .ok (.iload_n 2, 1) := by decide +kernel
theorem dX5_randomGames_10 : decode cX5_randomGames 10 = .ok (.bipush 50, 2) := by decide +kernel
theorem dX5_randomGames_12 : decode cX5_randomGames 12 = .ok (.if_icmp .le 6, 3) := by decide +kernel
theorem dX5_randomGames_15 : decode cX5_randomGames 15 = .ok (.bipush (-12), 2) := by decide +kernel
theorem dX5_randomGames_17 : decode cX5_randomGames 17 = .ok (.ireturn, 1) := by decide +kernel
theorem dX5_randomGames_18 : decode cX5_randomGames 18 = .ok (.aload_n 0, 1) := by decide +kernel
theorem dX5_randomGames_19 : decode cX5_randomGames 19 = .ok (.getfield 52, 3) := by decide +kernel
theorem dX5_randomGames_22 : decode cX5_randomGames 22 = .ok (.getfield 66, 3) := by decide +kernel
theorem dX5_randomGames_25 : decode cX5_randomGames 25 = .ok (.astore_n 3, 1) := by decide +kernel
theorem dX5_randomGames_26 : decode cX5_randomGames 26 = .ok (.iload_n 1, 1) := by decide +kernel
theorem dX5_randomGames_27 : decode cX5_randomGames 27 = .ok (.i2l, 1) := by decide +kernel
theorem dX5_randomGames_28 : decode cX5_randomGames 28 = .ok (.lstore 4, 2) := by decide +kernel
theorem dX5_randomGames_30 : decode cX5_randomGames 30 = .ok (.iconst 0, 1) := by decide +kernel
theorem dX5_randomGames_31 : decode cX5_randomGames 31 = .ok (.istore 6, 2) := by decide +kernel
theorem dX5_randomGames_33 : decode cX5_randomGames 33 = .ok (.iconst 0, 1) := by decide +kernel
theorem dX5_randomGames_34 : decode cX5_randomGames 34 = .ok (.istore 7, 2) := by decide +kernel
theorem dX5_randomGames_36 : decode cX5_randomGames 36 = .ok (.iload 7, 2) := by decide +kernel
theorem dX5_randomGames_38 : decode cX5_randomGames 38 = .ok (.iload_n 2, 1) := by decide +kernel
theorem dX5_randomGames_39 : decode cX5_randomGames 39 = .ok (.if_icmp .ge 138, 3) := by decide +kernel
theorem dX5_randomGames_42 : decode cX5_randomGames 42 = .ok (.aload_n 0, 1) := by decide +kernel
theorem dX5_randomGames_43 : decode cX5_randomGames 43 = .ok (.getfield 52, 3) := by decide +kernel
theorem dX5_randomGames_46 : decode cX5_randomGames 46 = .ok (.iconst 0, 1) := by decide +kernel
theorem dX5_randomGames_47 : decode cX5_randomGames 47 = .ok (.invokevirtual 101, 3) := by decide +kernel
theorem dX5_randomGames_50 : decode cX5_randomGames 50 = .ok (.lstore 8, 2) := by decide +kernel
theorem dX5_randomGames_52 : decode cX5_randomGames 52 = .ok (.aload_n 0, 1) := by decide +kernel
theorem dX5_randomGames_53 : decode cX5_randomGames 53 = .ok (.getfield 52, 3) := by decide +kernel
theorem dX5_randomGames_56 : decode cX5_randomGames 56 = .ok (.invokevirtual 151, 3) := by decide +kernel
theorem dX5_randomGames_59 : decode cX5_randomGames 59 = .ok (.lstore 10, 2) := by decide +kernel
theorem dX5_randomGames_61 : decode cX5_randomGames 61 = .ok (.aload_n 0, 1) := by decide +kernel
theorem dX5_randomGames_62 : decode cX5_randomGames 62 = .ok (.getfield 52, 3) := by decide +kernel
theorem dX5_randomGames_65 : decode cX5_randomGames 65 = .ok (.invokevirtual 122, 3) := by decide +kernel
theorem dX5_randomGames_68 : decode cX5_randomGames 68 = .ok (.istore 12, 2) := by decide +kernel
theorem dX5_randomGames_70 : decode cX5_randomGames 70 = .ok (.lload 10, 2) := by decide +kernel
theorem dX5_randomGames_72 : decode cX5_randomGames 72 = .ok (.invokestatic 177, 3) := by decide +kernel
theorem dX5_randomGames_75 : decode cX5_randomGames 75 = .ok (.istore 13, 2) := by decide +kernel
theorem dX5_randomGames_77 : decode cX5_randomGames 77 = .ok (.iload 13, 2) := by decide +kernel
theorem dX5_randomGames_79 : decode cX5_randomGames 79 = .ok (.ifCond .le 72, 3) := by decide +kernel
theorem dX5_randomGames_82 : decode cX5_randomGames 82 = .ok (.lload 4, 2) := by decide +kernel
theorem dX5_randomGames_84 : decode cX5_randomGames 84 = .ok (.ldc2_w 233, 3) := by decide +kernel
theorem dX5_randomGames_87 : decode cX5_randomGames 87 = .ok (.lmul, 1) := by decide +kernel
theorem dX5_randomGames_88 : decode cX5_randomGames 88 = .ok (.ldc2_w 235, 3) := by decide +kernel
theorem dX5_randomGames_91 : decode cX5_randomGames 91 = .ok (.ladd, 1) := by decide +kernel
theorem dX5_randomGames_92 : decode cX5_randomGames 92 = .ok (.ldc2_w 237, 3) := by decide +kernel
theorem dX5_randomGames_95 : decode cX5_randomGames 95 = .ok (.lrem, 1) := by decide +kernel
theorem dX5_randomGames_96 : decode cX5_randomGames 96 = .ok (.lstore 4, 2) := by decide +kernel
theorem dX5_randomGames_98 : decode cX5_randomGames 98 = .ok (.lload 10, 2) := by decide +kernel
theorem dX5_randomGames_100 : decode cX5_randomGames 100 = .ok (.lload 4, 2) := by decide +kernel
theorem dX5_randomGames_102 : decode cX5_randomGames 102 = .ok (.ldc2_w 239, 3) := by decide +kernel
theorem dX5_randomGames_105 : decode cX5_randomGames 105 = .ok (.ldiv, 1) := by decide +kernel
theorem dX5_randomGames_106 : decode cX5_randomGames 106 = .ok (.iload 13, 2) := by decide +kernel
theorem dX5_randomGames_108 : decode cX5_randomGames 108 = .ok (.i2l, 1) := by decide +kernel
theorem dX5_randomGames_109 : decode cX5_randomGames 109 = .ok (.lrem, 1) := by decide +kernel
theorem dX5_randomGames_110 : decode cX5_randomGames 110 = .ok (.l2i, 1) := by decide +kernel
theorem dX5_randomGames_111 : decode cX5_randomGames 111 = .ok (.invokestatic 241, 3) := by decide +kernel
theorem dX5_randomGames_114 : decode cX5_randomGames 114 = .ok (.lstore 14, 2) := by decide +kernel
theorem dX5_randomGames_116 : decode cX5_randomGames 116 = .ok (.lload 10, 2) := by decide +kernel
theorem dX5_randomGames_118 : decode cX5_randomGames 118 = .ok (.lload 14, 2) := by decide +kernel
theorem dX5_randomGames_120 : decode cX5_randomGames 120 = .ok (.ldc2_w 138, 3) := by decide +kernel
theorem dX5_randomGames_123 : decode cX5_randomGames 123 = .ok (.lxor, 1) := by decide +kernel
theorem dX5_randomGames_124 : decode cX5_randomGames 124 = .ok (.land, 1) := by decide +kernel
theorem dX5_randomGames_125 : decode cX5_randomGames 125 = .ok (.lstore 10, 2) := by decide +kernel
theorem dX5_randomGames_127 : decode cX5_randomGames 127 = .ok (.iload 12, 2) := by decide +kernel
theorem dX5_randomGames_129 : decode cX5_randomGames 129 = .ok (.ifCond .ne 10, 3) := by decide +kernel
theorem dX5_randomGames_132 : decode cX5_randomGames 132 = .ok (.lload 8, 2) := by decide +kernel
theorem dX5_randomGames_134 : decode cX5_randomGames 134 = .ok (.lload 14, 2) := by decide +kernel
theorem dX5_randomGames_136 : decode cX5_randomGames 136 = .ok (.lor, 1) := by decide +kernel
theorem dX5_randomGames_137 : decode cX5_randomGames 137 = .ok (.lstore 8, 2) := by decide +kernel
theorem dX5_randomGames_139 : decode cX5_randomGames 139 = .ok (.iconst 1, 1) := by decide +kernel
theorem dX5_randomGames_140 : decode cX5_randomGames 140 = .ok (.iload 12, 2) := by decide +kernel
theorem dX5_randomGames_142 : decode cX5_randomGames 142 = .ok (.isub, 1) := by decide +kernel
theorem dX5_randomGames_143 : decode cX5_randomGames 143 = .ok (.istore 12, 2) := by decide +kernel
theorem dX5_randomGames_145 : decode cX5_randomGames 145 = .ok (.iinc 13 (-1), 3) := by decide +kernel
theorem dX5_randomGames_148 : decode cX5_randomGames 148 = .ok (.goto (-71), 3) := by decide +kernel
theorem dX5_randomGames_151 : decode cX5_randomGames 151 = .ok (.aload_n 3, 1) := by decide +kernel
theorem dX5_randomGames_152 : decode cX5_randomGames 152 = .ok (.lload 8, 2) := by decide +kernel
theorem dX5_randomGames_154 : decode cX5_randomGames 154 = .ok (.aload_n 3, 1) := by decide +kernel
theorem dX5_randomGames_155 : decode cX5_randomGames 155 = .ok (.getfield 193, 3) := by decide +kernel
theorem dX5_randomGames_158 : decode cX5_randomGames 158 = .ok (.aload_n 3, 1) := by decide +kernel
theorem dX5_randomGames_159 : decode cX5_randomGames 159 = .ok (.getfield 197, 3) := by decide +kernel
theorem dX5_randomGames_162 : decode cX5_randomGames 162 = .ok (.invokevirtual 245, 3) := by decide +kernel
theorem dX5_randomGames_165 : decode cX5_randomGames 165 = .ok (.ifCond .eq 6, 3) := by decide +kernel
theorem dX5_randomGames_168 : decode cX5_randomGames 168 = .ok (.iinc 6 1, 3) := by decide +kernel
theorem dX5_randomGames_171 : decode cX5_randomGames 171 = .ok (.iinc 7 1, 3) := by decide +kernel
theorem dX5_randomGames_174 : decode cX5_randomGames 174 = .ok (.goto (-138), 3) := by decide +kernel
theorem dX5_randomGames_177 : decode cX5_randomGames 177 = .ok (.iload 6, 2) := by decide +kernel
theorem dX5_randomGames_179 : decode cX5_randomGames 179 = .ok (.ireturn, 1) := by decide +kernel
theorem dX5_append_0 : decode cX5_append 0 = .ok (.iload_n 1, 1) := by decide +kernel
theorem dX5_append_1 : decode cX5_append 1 = .ok (.ifCond .lt 9, 3) := by decide +kernel
theorem dX5_append_4 : decode cX5_append 4 = .ok (.iload_n 1, 1) := by decide +kernel
theorem dX5_append_5 : decode cX5_append 5 = .ok (.bipush 127, 2) := by decide +kernel
theorem dX5_append_7 : decode cX5_append 7 = .ok (.if_icmp .le 6, 3) := by decide +kernel
theorem dX5_append_10 : decode cX5_append 10 = .ok (.bipush (-12), 2) := by decide +kernel
theorem dX5_append_12 : decode cX5_append 12 = .ok (.ireturn, 1) := by decide +kernel
theorem dX5_append_13 : decode cX5_append 13 = .ok (.aload_n 0, 1) := by decide +kernel
theorem dX5_append_14 : decode cX5_append 14 = .ok (.getfield 249, 3) := by decide +kernel
theorem dX5_append_17 : decode cX5_append 17 = .ok (.bipush 100, 2) := by decide +kernel
theorem dX5_append_19 : decode cX5_append 19 = .ok (.if_icmp .lt 6, 3) := by decide +kernel
theorem dX5_append_22 : decode cX5_append 22 = .ok (.bipush (-14), 2) := by decide +kernel
theorem dX5_append_24 : decode cX5_append 24 = .ok (.ireturn, 1) := by decide +kernel
theorem dX5_append_25 : decode cX5_append 25 = .ok (.aload_n 0, 1) := by decide +kernel
theorem dX5_append_26 : decode cX5_append 26 = .ok (.getfield 40, 3) := by decide +kernel
theorem dX5_append_29 : decode cX5_append 29 = .ok (.aload_n 0, 1) := by decide +kernel
theorem dX5_append_30 : decode cX5_append 30 = .ok (.getfield 249, 3) := by decide +kernel
theorem dX5_append_33 : decode cX5_append 33 = .ok (.iload_n 1, 1) := by decide +kernel
theorem dX5_append_34 : decode cX5_append 34 = .ok (.i2b, 1) := by decide +kernel
theorem dX5_append_35 : decode cX5_append 35 = .ok (.bastore, 1) := by decide +kernel
theorem dX5_append_36 : decode cX5_append 36 = .ok (.aload_n 0, 1) := by decide +kernel
theorem dX5_append_37 : decode cX5_append 37 = .ok (.dup, 1) := by decide +kernel
theorem dX5_append_38 : decode cX5_append 38 = .ok (.getfield 249, 3) := by decide +kernel
theorem dX5_append_41 : decode cX5_append 41 = .ok (.iconst 1, 1) := by decide +kernel
theorem dX5_append_42 : decode cX5_append 42 = .ok (.iadd, 1) := by decide +kernel
theorem dX5_append_43 : decode cX5_append 43 = .ok (.putfield 249, 3) := by decide +kernel
theorem dX5_append_46 : decode cX5_append 46 = .ok (.aload_n 0, 1) := by decide +kernel
theorem dX5_append_47 : decode cX5_append 47 = .ok (.getfield 249, 3) := by decide +kernel
theorem dX5_append_50 : decode cX5_append 50 = .ok (.ireturn, 1) := by decide +kernel
theorem dX5_clearText_0 : decode cX5_clearText 0 = .ok (.aload_n 0, 1) := by decide +kernel
theorem dX5_clearText_1 : decode cX5_clearText 1 = .ok (.getfield 249, 3) := by decide +kernel
theorem dX5_clearText_4 : decode cX5_clearText 4 = .ok (.istore_n 1, 1) := by decide +kernel
theorem dX5_clearText_5 : decode cX5_clearText 5 = .ok (.aload_n 0, 1) := by decide +kernel
theorem dX5_clearText_6 : decode cX5_clearText 6 = .ok (.iconst 0, 1) := by decide +kernel
theorem dX5_clearText_7 : decode cX5_clearText 7 = .ok (.putfield 249, 3) := by decide +kernel
theorem dX5_clearText_10 : decode cX5_clearText 10 = .ok (.iload_n 1, 1) := by decide +kernel
theorem dX5_clearText_11 : decode cX5_clearText 11 = .ok (.ireturn, 1) := by decide +kernel
theorem dX5_faultPosition_0 : decode cX5_faultPosition 0 = .ok (.aload_n 0, 1) := by decide +kernel
theorem dX5_faultPosition_1 : decode cX5_faultPosition 1 = .ok (.invokevirtual 252, 3) := by decide +kernel
theorem dX5_faultPosition_4 : decode cX5_faultPosition 4 = .ok (.ireturn, 1) := by decide +kernel
theorem dX5_read_0 : decode cX5_read 0 = .ok (.aload_n 0, 1) := by decide +kernel
theorem dX5_read_1 : decode cX5_read 1 = .ok (.invokevirtual 252, 3) := by decide +kernel
theorem dX5_read_4 : decode cX5_read 4 = .ok (.bipush (-15), 2) := by decide +kernel
theorem dX5_read_6 : decode cX5_read 6 = .ok (.if_icmp .eq 6, 3) := by decide +kernel
theorem dX5_read_9 : decode cX5_read 9 = .ok (.bipush (-13), 2) := by decide +kernel
theorem dX5_read_11 : decode cX5_read 11 = .ok (.ireturn, 1) := by decide +kernel
theorem dX5_read_12 : decode cX5_read 12 = .ok (.aload_n 0, 1) := by decide +kernel
theorem dX5_read_13 : decode cX5_read 13 = .ok (.getfield 52, 3) := by decide +kernel
theorem dX5_read_16 : decode cX5_read 16 = .ok (.aload_n 0, 1) := by decide +kernel
theorem dX5_read_17 : decode cX5_read 17 = .ok (.getfield 56, 3) := by decide +kernel
theorem dX5_read_20 : decode cX5_read 20 = .ok (.invokevirtual 255, 3) := by decide +kernel
theorem dX5_read_23 : decode cX5_read 23 = .ok (.aload_n 0, 1) := by decide +kernel
theorem dX5_read_24 : decode cX5_read 24 = .ok (.iconst 0, 1) := by decide +kernel
theorem dX5_read_25 : decode cX5_read 25 = .ok (.putfield 77, 3) := by decide +kernel
theorem dX5_read_28 : decode cX5_read 28 = .ok (.aload_n 0, 1) := by decide +kernel
theorem dX5_read_29 : decode cX5_read 29 = .ok (.getfield 52, 3) := by decide +kernel
theorem dX5_read_32 : decode cX5_read 32 = .ok (.getfield 94, 3) := by decide +kernel
theorem dX5_read_35 : decode cX5_read 35 = .ok (.ireturn, 1) := by decide +kernel
theorem dX5_save_0 : decode cX5_save 0 = .ok (.iload_n 1, 1) := by decide +kernel
theorem dX5_save_1 : decode cX5_save 1 = .ok (.ifCond .lt 8, 3) := by decide +kernel
theorem dX5_save_4 : decode cX5_save 4 = .ok (.iload_n 1, 1) := by decide +kernel
theorem dX5_save_5 : decode cX5_save 5 = .ok (.iconst 2, 1) := by decide +kernel
theorem dX5_save_6 : decode cX5_save 6 = .ok (.if_icmp .lt 6, 3) := by decide +kernel
theorem dX5_save_9 : decode cX5_save 9 = .ok (.bipush (-11), 2) := by decide +kernel
theorem dX5_save_11 : decode cX5_save 11 = .ok (.ireturn, 1) := by decide +kernel
theorem dX5_save_12 : decode cX5_save 12 = .ok (.aload_n 0, 1) := by decide +kernel
theorem dX5_save_13 : decode cX5_save 13 = .ok (.getfield 11, 3) := by decide +kernel
theorem dX5_save_16 : decode cX5_save 16 = .ok (.iload_n 1, 1) := by decide +kernel
theorem dX5_save_17 : decode cX5_save 17 = .ok (.aaload, 1) := by decide +kernel
theorem dX5_save_18 : decode cX5_save 18 = .ok (.astore_n 2, 1) := by decide +kernel
theorem dX5_save_19 : decode cX5_save 19 = .ok (.aload_n 2, 1) := by decide +kernel
theorem dX5_save_20 : decode cX5_save 20 = .ok (.ifnonnull 25, 3) := by decide +kernel
theorem dX5_save_23 : decode cX5_save 23 = .ok (.new 9, 3) := by decide +kernel
theorem dX5_save_26 : decode cX5_save 26 = .ok (.dup, 1) := by decide +kernel
theorem dX5_save_27 : decode cX5_save 27 = .ok (.aload_n 0, 1) := by decide +kernel
theorem dX5_save_28 : decode cX5_save 28 = .ok (.getfield 52, 3) := by decide +kernel
theorem dX5_save_31 : decode cX5_save 31 = .ok (.getfield 66, 3) := by decide +kernel
theorem dX5_save_34 : decode cX5_save 34 = .ok (.invokespecial 49, 3) := by decide +kernel
theorem dX5_save_37 : decode cX5_save 37 = .ok (.astore_n 2, 1) := by decide +kernel
theorem dX5_save_38 : decode cX5_save 38 = .ok (.aload_n 0, 1) := by decide +kernel
theorem dX5_save_39 : decode cX5_save 39 = .ok (.getfield 11, 3) := by decide +kernel
theorem dX5_save_42 : decode cX5_save 42 = .ok (.iload_n 1, 1) := by decide +kernel
theorem dX5_save_43 : decode cX5_save 43 = .ok (.aload_n 2, 1) := by decide +kernel
theorem dX5_save_44 : decode cX5_save 44 = .ok (.aastore, 1) := by decide +kernel
theorem dX5_save_45 : decode cX5_save 45 = .ok (.aload_n 2, 1) := by decide +kernel
theorem dX5_save_46 : decode cX5_save 46 = .ok (.aload_n 0, 1) := by decide +kernel
theorem dX5_save_47 : decode cX5_save 47 = .ok (.getfield 52, 3) := by decide +kernel
theorem dX5_save_50 : decode cX5_save 50 = .ok (.invokevirtual 255, 3) := by decide +kernel
theorem dX5_save_53 : decode cX5_save 53 = .ok (.aload_n 0, 1) := by decide +kernel
theorem dX5_save_54 : decode cX5_save 54 = .ok (.getfield 52, 3) := by decide +kernel
theorem dX5_save_57 : decode cX5_save 57 = .ok (.getfield 94, 3) := by decide +kernel
theorem dX5_save_60 : decode cX5_save 60 = .ok (.ireturn, 1) := by decide +kernel
theorem dX5_restore_0 : decode cX5_restore 0 = .ok (.iload_n 1, 1) := by decide +kernel
theorem dX5_restore_1 : decode cX5_restore 1 = .ok (.ifCond .lt 8, 3) := by decide +kernel
theorem dX5_restore_4 : decode cX5_restore 4 = .ok (.iload_n 1, 1) := by decide +kernel
theorem dX5_restore_5 : decode cX5_restore 5 = .ok (.iconst 2, 1) := by decide +kernel
theorem dX5_restore_6 : decode cX5_restore 6 = .ok (.if_icmp .lt 6, 3) := by decide +kernel
theorem dX5_restore_9 : decode cX5_restore 9 = .ok (.bipush (-11), 2) := by decide +kernel
theorem dX5_restore_11 : decode cX5_restore 11 = .ok (.ireturn, 1) := by decide +kernel
theorem dX5_restore_12 : decode cX5_restore 12 = .ok (.aload_n 0, 1) := by decide +kernel
theorem dX5_restore_13 : decode cX5_restore 13 = .ok (.getfield 11, 3) := by decide +kernel
theorem dX5_restore_16 : decode cX5_restore 16 = .ok (.iload_n 1, 1) := by decide +kernel
theorem dX5_restore_17 : decode cX5_restore 17 = .ok (.aaload, 1) := by decide +kernel
theorem dX5_restore_18 : decode cX5_restore 18 = .ok (.astore_n 2, 1) := by decide +kernel
theorem dX5_restore_19 : decode cX5_restore 19 = .ok (.aload_n 2, 1) := by decide +kernel
theorem dX5_restore_20 : decode cX5_restore 20 = .ok (.ifnonnull 6, 3) := by decide +kernel
theorem dX5_restore_23 : decode cX5_restore 23 = .ok (.bipush (-13), 2) := by decide +kernel
theorem dX5_restore_25 : decode cX5_restore 25 = .ok (.ireturn, 1) := by decide +kernel
theorem dX5_restore_26 : decode cX5_restore 26 = .ok (.aload_n 0, 1) := by decide +kernel
theorem dX5_restore_27 : decode cX5_restore 27 = .ok (.getfield 52, 3) := by decide +kernel
theorem dX5_restore_30 : decode cX5_restore 30 = .ok (.aload_n 2, 1) := by decide +kernel
theorem dX5_restore_31 : decode cX5_restore 31 = .ok (.invokevirtual 255, 3) := by decide +kernel
theorem dX5_restore_34 : decode cX5_restore 34 = .ok (.aload_n 0, 1) := by decide +kernel
theorem dX5_restore_35 : decode cX5_restore 35 = .ok (.iconst 0, 1) := by decide +kernel
theorem dX5_restore_36 : decode cX5_restore 36 = .ok (.putfield 77, 3) := by decide +kernel
theorem dX5_restore_39 : decode cX5_restore 39 = .ok (.aload_n 0, 1) := by decide +kernel
theorem dX5_restore_40 : decode cX5_restore 40 = .ok (.getfield 52, 3) := by decide +kernel
theorem dX5_restore_43 : decode cX5_restore 43 = .ok (.getfield 94, 3) := by decide +kernel
theorem dX5_restore_46 : decode cX5_restore 46 = .ok (.ireturn, 1) := by decide +kernel
theorem dX5_checksum_0 : decode cX5_checksum 0 = .ok (.ldc2_w 258, 3) := by decide +kernel
theorem dX5_checksum_3 : decode cX5_checksum 3 = .ok (.lstore_n 1, 1) := by decide +kernel
theorem dX5_checksum_4 : decode cX5_checksum 4 = .ok (.ldc2_w 260, 3) := by decide +kernel
theorem dX5_checksum_7 : decode cX5_checksum 7 = .ok (.lload_n 1, 1) := by decide +kernel
theorem dX5_checksum_8 : decode cX5_checksum 8 = .ok (.lmul, 1) := by decide +kernel
theorem dX5_checksum_9 : decode cX5_checksum 9 = .ok (.aload_n 0, 1) := by decide +kernel
theorem dX5_checksum_10 : decode cX5_checksum 10 = .ok (.invokevirtual 262, 3) := by decide +kernel
theorem dX5_checksum_13 : decode cX5_checksum 13 = .ok (.i2l, 1) := by decide +kernel
theorem dX5_checksum_14 : decode cX5_checksum 14 = .ok (.ladd, 1) := by decide +kernel
theorem dX5_checksum_15 : decode cX5_checksum 15 = .ok (.lstore_n 1, 1) := by decide +kernel
theorem dX5_checksum_16 : decode cX5_checksum 16 = .ok (.ldc2_w 260, 3) := by decide +kernel
theorem dX5_checksum_19 : decode cX5_checksum 19 = .ok (.lload_n 1, 1) := by decide +kernel
theorem dX5_checksum_20 : decode cX5_checksum 20 = .ok (.lmul, 1) := by decide +kernel
theorem dX5_checksum_21 : decode cX5_checksum 21 = .ok (.aload_n 0, 1) := by decide +kernel
theorem dX5_checksum_22 : decode cX5_checksum 22 = .ok (.invokevirtual 265, 3) := by decide +kernel
theorem dX5_checksum_25 : decode cX5_checksum 25 = .ok (.i2l, 1) := by decide +kernel
theorem dX5_checksum_26 : decode cX5_checksum 26 = .ok (.ladd, 1) := by decide +kernel
theorem dX5_checksum_27 : decode cX5_checksum 27 = .ok (.lstore_n 1, 1) := by decide +kernel
theorem dX5_checksum_28 : decode cX5_checksum 28 = .ok (.iconst 0, 1) := by decide +kernel
theorem dX5_checksum_29 : decode cX5_checksum 29 = .ok (.istore_n 3, 1) := by decide +kernel
theorem dX5_checksum_30 : decode cX5_checksum 30 = .ok (.iload_n 3, 1) := by decide +kernel
theorem dX5_checksum_31 : decode cX5_checksum 31 = .ok (.aload_n 0, 1) := by decide +kernel
theorem dX5_checksum_32 : decode cX5_checksum 32 = .ok (.getfield 52, 3) := by decide +kernel
theorem dX5_checksum_35 : decode cX5_checksum 35 = .ok (.getfield 94, 3) := by decide +kernel
theorem dX5_checksum_38 : decode cX5_checksum 38 = .ok (.if_icmp .ge 22, 3) := by decide +kernel
theorem dX5_checksum_41 : decode cX5_checksum 41 = .ok (.ldc2_w 260, 3) := by decide +kernel
theorem dX5_checksum_44 : decode cX5_checksum 44 = .ok (.lload_n 1, 1) := by decide +kernel
theorem dX5_checksum_45 : decode cX5_checksum 45 = .ok (.lmul, 1) := by decide +kernel
theorem dX5_checksum_46 : decode cX5_checksum 46 = .ok (.aload_n 0, 1) := by decide +kernel
theorem dX5_checksum_47 : decode cX5_checksum 47 = .ok (.iload_n 3, 1) := by decide +kernel
theorem dX5_checksum_48 : decode cX5_checksum 48 = .ok (.invokevirtual 268, 3) := by decide +kernel
theorem dX5_checksum_51 : decode cX5_checksum 51 = .ok (.i2l, 1) := by decide +kernel
theorem dX5_checksum_52 : decode cX5_checksum 52 = .ok (.ladd, 1) := by decide +kernel
theorem dX5_checksum_53 : decode cX5_checksum 53 = .ok (.lstore_n 1, 1) := by decide +kernel
theorem dX5_checksum_54 : decode cX5_checksum 54 = .ok (.iinc 3 1, 3) := by decide +kernel
theorem dX5_checksum_57 : decode cX5_checksum 57 = .ok (.goto (-27), 3) := by decide +kernel
theorem dX5_checksum_60 : decode cX5_checksum 60 = .ok (.ldc2_w 260, 3) := by decide +kernel
theorem dX5_checksum_63 : decode cX5_checksum 63 = .ok (.lload_n 1, 1) := by decide +kernel
theorem dX5_checksum_64 : decode cX5_checksum 64 = .ok (.lmul, 1) := by decide +kernel
theorem dX5_checksum_65 : decode cX5_checksum 65 = .ok (.aload_n 0, 1) := by decide +kernel
theorem dX5_checksum_66 : decode cX5_checksum 66 = .ok (.invokevirtual 271, 3) := by decide +kernel
theorem dX5_checksum_69 : decode cX5_checksum 69 = .ok (.i2l, 1) := by decide +kernel
theorem dX5_checksum_70 : decode cX5_checksum 70 = .ok (.ladd, 1) := by decide +kernel
theorem dX5_checksum_71 : decode cX5_checksum 71 = .ok (.lstore_n 1, 1) := by decide +kernel
theorem dX5_checksum_72 : decode cX5_checksum 72 = .ok (.iconst 0, 1) := by decide +kernel
theorem dX5_checksum_73 : decode cX5_checksum 73 = .ok (.istore_n 3, 1) := by decide +kernel
theorem dX5_checksum_74 : decode cX5_checksum 74 = .ok (.iload_n 3, 1) := by decide +kernel
theorem dX5_checksum_75 : decode cX5_checksum 75 = .ok (.iconst 2, 1) := by decide +kernel
theorem dX5_checksum_76 : decode cX5_checksum 76 = .ok (.if_icmp .ge 110, 3) := by decide +kernel
theorem dX5_checksum_79 : decode cX5_checksum 79 = .ok (.ldc2_w 260, 3) := by decide +kernel
theorem dX5_checksum_82 : decode cX5_checksum 82 = .ok (.lload_n 1, 1) := by decide +kernel
theorem dX5_checksum_83 : decode cX5_checksum 83 = .ok (.lmul, 1) := by decide +kernel
theorem dX5_checksum_84 : decode cX5_checksum 84 = .ok (.aload_n 0, 1) := by decide +kernel
theorem dX5_checksum_85 : decode cX5_checksum 85 = .ok (.iload_n 3, 1) := by decide +kernel
theorem dX5_checksum_86 : decode cX5_checksum 86 = .ok (.invokevirtual 274, 3) := by decide +kernel
theorem dX5_checksum_89 : decode cX5_checksum 89 = .ok (.ladd, 1) := by decide +kernel
theorem dX5_checksum_90 : decode cX5_checksum 90 = .ok (.lstore_n 1, 1) := by decide +kernel
theorem dX5_checksum_91 : decode cX5_checksum 91 = .ok (.ldc2_w 260, 3) := by decide +kernel
theorem dX5_checksum_94 : decode cX5_checksum 94 = .ok (.lload_n 1, 1) := by decide +kernel
theorem dX5_checksum_95 : decode cX5_checksum 95 = .ok (.lmul, 1) := by decide +kernel
theorem dX5_checksum_96 : decode cX5_checksum 96 = .ok (.aload_n 0, 1) := by decide +kernel
theorem dX5_checksum_97 : decode cX5_checksum 97 = .ok (.iload_n 3, 1) := by decide +kernel
theorem dX5_checksum_98 : decode cX5_checksum 98 = .ok (.invokevirtual 277, 3) := by decide +kernel
theorem dX5_checksum_101 : decode cX5_checksum 101 = .ok (.i2l, 1) := by decide +kernel
theorem dX5_checksum_102 : decode cX5_checksum 102 = .ok (.ladd, 1) := by decide +kernel
theorem dX5_checksum_103 : decode cX5_checksum 103 = .ok (.lstore_n 1, 1) := by decide +kernel
theorem dX5_checksum_104 : decode cX5_checksum 104 = .ok (.ldc2_w 260, 3) := by decide +kernel
theorem dX5_checksum_107 : decode cX5_checksum 107 = .ok (.lload_n 1, 1) := by decide +kernel
theorem dX5_checksum_108 : decode cX5_checksum 108 = .ok (.lmul, 1) := by decide +kernel
theorem dX5_checksum_109 : decode cX5_checksum 109 = .ok (.aload_n 0, 1) := by decide +kernel
theorem dX5_checksum_110 : decode cX5_checksum 110 = .ok (.iload_n 3, 1) := by decide +kernel
theorem dX5_checksum_111 : decode cX5_checksum 111 = .ok (.invokevirtual 280, 3) := by decide +kernel
theorem dX5_checksum_114 : decode cX5_checksum 114 = .ok (.i2l, 1) := by decide +kernel
theorem dX5_checksum_115 : decode cX5_checksum 115 = .ok (.ladd, 1) := by decide +kernel
theorem dX5_checksum_116 : decode cX5_checksum 116 = .ok (.lstore_n 1, 1) := by decide +kernel
theorem dX5_checksum_117 : decode cX5_checksum 117 = .ok (.ldc2_w 260, 3) := by decide +kernel
theorem dX5_checksum_120 : decode cX5_checksum 120 = .ok (.lload_n 1, 1) := by decide +kernel
theorem dX5_checksum_121 : decode cX5_checksum 121 = .ok (.lmul, 1) := by decide +kernel
theorem dX5_checksum_122 : decode cX5_checksum 122 = .ok (.aload_n 0, 1) := by decide +kernel
theorem dX5_checksum_123 : decode cX5_checksum 123 = .ok (.iload_n 3, 1) := by decide +kernel
theorem dX5_checksum_124 : decode cX5_checksum 124 = .ok (.invokevirtual 283, 3) := by decide +kernel
theorem dX5_checksum_127 : decode cX5_checksum 127 = .ok (.ladd, 1) := by decide +kernel
theorem dX5_checksum_128 : decode cX5_checksum 128 = .ok (.lstore_n 1, 1) := by decide +kernel
theorem dX5_checksum_129 : decode cX5_checksum 129 = .ok (.ldc2_w 260, 3) := by decide +kernel
theorem dX5_checksum_132 : decode cX5_checksum 132 = .ok (.lload_n 1, 1) := by decide +kernel
theorem dX5_checksum_133 : decode cX5_checksum 133 = .ok (.lmul, 1) := by decide +kernel
theorem dX5_checksum_134 : decode cX5_checksum 134 = .ok (.aload_n 0, 1) := by decide +kernel
theorem dX5_checksum_135 : decode cX5_checksum 135 = .ok (.iload_n 3, 1) := by decide +kernel
theorem dX5_checksum_136 : decode cX5_checksum 136 = .ok (.invokevirtual 286, 3) := by decide +kernel
theorem dX5_checksum_139 : decode cX5_checksum 139 = .ok (.i2l, 1) := by decide +kernel
theorem dX5_checksum_140 : decode cX5_checksum 140 = .ok (.ladd, 1) := by decide +kernel
theorem dX5_checksum_141 : decode cX5_checksum 141 = .ok (.lstore_n 1, 1) := by decide +kernel
theorem dX5_checksum_142 : decode cX5_checksum 142 = .ok (.ldc2_w 260, 3) := by decide +kernel
theorem dX5_checksum_145 : decode cX5_checksum 145 = .ok (.lload_n 1, 1) := by decide +kernel
theorem dX5_checksum_146 : decode cX5_checksum 146 = .ok (.lmul, 1) := by decide +kernel
theorem dX5_checksum_147 : decode cX5_checksum 147 = .ok (.aload_n 0, 1) := by decide +kernel
theorem dX5_checksum_148 : decode cX5_checksum 148 = .ok (.iload_n 3, 1) := by decide +kernel
theorem dX5_checksum_149 : decode cX5_checksum 149 = .ok (.invokevirtual 289, 3) := by decide +kernel
theorem dX5_checksum_152 : decode cX5_checksum 152 = .ok (.i2l, 1) := by decide +kernel
theorem dX5_checksum_153 : decode cX5_checksum 153 = .ok (.ladd, 1) := by decide +kernel
theorem dX5_checksum_154 : decode cX5_checksum 154 = .ok (.lstore_n 1, 1) := by decide +kernel
theorem dX5_checksum_155 : decode cX5_checksum 155 = .ok (.ldc2_w 260, 3) := by decide +kernel
theorem dX5_checksum_158 : decode cX5_checksum 158 = .ok (.lload_n 1, 1) := by decide +kernel
theorem dX5_checksum_159 : decode cX5_checksum 159 = .ok (.lmul, 1) := by decide +kernel
theorem dX5_checksum_160 : decode cX5_checksum 160 = .ok (.aload_n 0, 1) := by decide +kernel
theorem dX5_checksum_161 : decode cX5_checksum 161 = .ok (.iload_n 3, 1) := by decide +kernel
theorem dX5_checksum_162 : decode cX5_checksum 162 = .ok (.invokevirtual 292, 3) := by decide +kernel
theorem dX5_checksum_165 : decode cX5_checksum 165 = .ok (.i2l, 1) := by decide +kernel
theorem dX5_checksum_166 : decode cX5_checksum 166 = .ok (.ladd, 1) := by decide +kernel
theorem dX5_checksum_167 : decode cX5_checksum 167 = .ok (.lstore_n 1, 1) := by decide +kernel
theorem dX5_checksum_168 : decode cX5_checksum 168 = .ok (.ldc2_w 260, 3) := by decide +kernel
theorem dX5_checksum_171 : decode cX5_checksum 171 = .ok (.lload_n 1, 1) := by decide +kernel
theorem dX5_checksum_172 : decode cX5_checksum 172 = .ok (.lmul, 1) := by decide +kernel
theorem dX5_checksum_173 : decode cX5_checksum 173 = .ok (.aload_n 0, 1) := by decide +kernel
theorem dX5_checksum_174 : decode cX5_checksum 174 = .ok (.iload_n 3, 1) := by decide +kernel
theorem dX5_checksum_175 : decode cX5_checksum 175 = .ok (.invokevirtual 295, 3) := by decide +kernel
theorem dX5_checksum_178 : decode cX5_checksum 178 = .ok (.ladd, 1) := by decide +kernel
theorem dX5_checksum_179 : decode cX5_checksum 179 = .ok (.lstore_n 1, 1) := by decide +kernel
theorem dX5_checksum_180 : decode cX5_checksum 180 = .ok (.iinc 3 1, 3) := by decide +kernel
theorem dX5_checksum_183 : decode cX5_checksum 183 = .ok (.goto (-109), 3) := by decide +kernel
theorem dX5_checksum_186 : decode cX5_checksum 186 = .ok (.ldc2_w 260, 3) := by decide +kernel
theorem dX5_checksum_189 : decode cX5_checksum 189 = .ok (.lload_n 1, 1) := by decide +kernel
theorem dX5_checksum_190 : decode cX5_checksum 190 = .ok (.lmul, 1) := by decide +kernel
theorem dX5_checksum_191 : decode cX5_checksum 191 = .ok (.aload_n 0, 1) := by decide +kernel
theorem dX5_checksum_192 : decode cX5_checksum 192 = .ok (.invokevirtual 298, 3) := by decide +kernel
theorem dX5_checksum_195 : decode cX5_checksum 195 = .ok (.ladd, 1) := by decide +kernel
theorem dX5_checksum_196 : decode cX5_checksum 196 = .ok (.lreturn, 1) := by decide +kernel
theorem dX5_isPlayer_0 : decode cX5_isPlayer 0 = .ok (.iload_n 0, 1) := by decide +kernel
theorem dX5_isPlayer_1 : decode cX5_isPlayer 1 = .ok (.ifCond .eq 8, 3) := by decide +kernel
theorem dX5_isPlayer_4 : decode cX5_isPlayer 4 = .ok (.iload_n 0, 1) := by decide +kernel
theorem dX5_isPlayer_5 : decode cX5_isPlayer 5 = .ok (.iconst 1, 1) := by decide +kernel
theorem dX5_isPlayer_6 : decode cX5_isPlayer 6 = .ok (.if_icmp .ne 7, 3) := by decide +kernel
theorem dX5_isPlayer_9 : decode cX5_isPlayer 9 = .ok (.iconst 1, 1) := by decide +kernel
theorem dX5_isPlayer_10 : decode cX5_isPlayer 10 = .ok (.goto 4, 3) := by decide +kernel
theorem dX5_isPlayer_13 : decode cX5_isPlayer 13 = .ok (.iconst 0, 1) := by decide +kernel
theorem dX5_isPlayer_14 : decode cX5_isPlayer 14 = .ok (.ireturn, 1) := by decide +kernel
theorem dX5_isCell_0 : decode cX5_isCell 0 = .ok (.iload_n 1, 1) := by decide +kernel
theorem dX5_isCell_1 : decode cX5_isCell 1 = .ok (.ifCond .lt 21, 3) := by decide +kernel
theorem dX5_isCell_4 : decode cX5_isCell 4 = .ok (.iload_n 1, 1) := by decide +kernel
theorem dX5_isCell_5 : decode cX5_isCell 5 = .ok (.aload_n 0, 1) := by decide +kernel
theorem dX5_isCell_6 : decode cX5_isCell 6 = .ok (.getfield 52, 3) := by decide +kernel
theorem dX5_isCell_9 : decode cX5_isCell 9 = .ok (.getfield 66, 3) := by decide +kernel
theorem dX5_isCell_12 : decode cX5_isCell 12 = .ok (.getfield 301, 3) := by decide +kernel
theorem dX5_isCell_15 : decode cX5_isCell 15 = .ok (.if_icmp .ge 7, 3) := by decide +kernel
theorem dX5_isCell_18 : decode cX5_isCell 18 = .ok (.iconst 1, 1) := by decide +kernel
theorem dX5_isCell_19 : decode cX5_isCell 19 = .ok (.goto 4, 3) := by decide +kernel
theorem dX5_isCell_22 : decode cX5_isCell 22 = .ok (.iconst 0, 1) := by decide +kernel
theorem dX5_isCell_23 : decode cX5_isCell 23 = .ok (.ireturn, 1) := by decide +kernel
theorem dX5_hasFreeAtMost_0 : decode cX5_hasFreeAtMost 0 = .ok (.aload_n 0, 1) := by decide +kernel
theorem dX5_hasFreeAtMost_1 : decode cX5_hasFreeAtMost 1 = .ok (.getfield 52, 3) := by decide +kernel
theorem dX5_hasFreeAtMost_4 : decode cX5_hasFreeAtMost 4 = .ok (.invokevirtual 151, 3) := by decide +kernel
theorem dX5_hasFreeAtMost_7 : decode cX5_hasFreeAtMost 7 = .ok (.invokestatic 177, 3) := by decide +kernel
theorem dX5_hasFreeAtMost_10 : decode cX5_hasFreeAtMost 10 = .ok (.iload_n 1, 1) := by decide +kernel
theorem dX5_hasFreeAtMost_11 : decode cX5_hasFreeAtMost 11 = .ok (.if_icmp .gt 7, 3) := by decide +kernel
theorem dX5_hasFreeAtMost_14 : decode cX5_hasFreeAtMost 14 = .ok (.iconst 1, 1) := by decide +kernel
theorem dX5_hasFreeAtMost_15 : decode cX5_hasFreeAtMost 15 = .ok (.goto 4, 3) := by decide +kernel
theorem dX5_hasFreeAtMost_18 : decode cX5_hasFreeAtMost 18 = .ok (.iconst 0, 1) := by decide +kernel
theorem dX5_hasFreeAtMost_19 : decode cX5_hasFreeAtMost 19 = .ok (.ireturn, 1) := by decide +kernel
theorem dX5_lowest_0 : decode cX5_lowest 0 = .ok (.lload_n 0, 1) := by decide +kernel
theorem dX5_lowest_1 : decode cX5_lowest 1 = .ok (.lload_n 0, 1) := by decide +kernel
theorem dX5_lowest_2 : decode cX5_lowest 2 = .ok (.lneg, 1) := by decide +kernel
theorem dX5_lowest_3 : decode cX5_lowest 3 = .ok (.land, 1) := by decide +kernel
theorem dX5_lowest_4 : decode cX5_lowest 4 = .ok (.lconst 1, 1) := by decide +kernel
theorem dX5_lowest_5 : decode cX5_lowest 5 = .ok (.lsub, 1) := by decide +kernel
theorem dX5_lowest_6 : decode cX5_lowest 6 = .ok (.invokestatic 177, 3) := by decide +kernel
theorem dX5_lowest_9 : decode cX5_lowest 9 = .ok (.ireturn, 1) := by decide +kernel
theorem dX5_cellWithNumber_0 : decode cX5_cellWithNumber 0 = .ok (.lload_n 0, 1) := by decide +kernel
theorem dX5_cellWithNumber_1 : decode cX5_cellWithNumber 1 = .ok (.lstore_n 3, 1) := by decide +kernel
theorem dX5_cellWithNumber_2 : decode cX5_cellWithNumber 2 = .ok (.iconst 0, 1) := by decide +kernel
theorem dX5_cellWithNumber_3 : decode cX5_cellWithNumber 3 = .ok (.istore 5, 2) := by decide +kernel
theorem dX5_cellWithNumber_5 : decode cX5_cellWithNumber 5 = .ok (.iload 5, 2) := by decide +kernel
theorem dX5_cellWithNumber_7 : decode cX5_cellWithNumber 7 = .ok (.iload_n 2, 1) := by decide +kernel
theorem dX5_cellWithNumber_8 : decode cX5_cellWithNumber 8 = .ok (.if_icmp .ge 15, 3) := by decide +kernel
theorem dX5_cellWithNumber_11 : decode cX5_cellWithNumber 11 = .ok (.lload_n 3, 1) := by decide +kernel
theorem dX5_cellWithNumber_12 : decode cX5_cellWithNumber 12 = .ok (.lload_n 3, 1) := by decide +kernel
theorem dX5_cellWithNumber_13 : decode cX5_cellWithNumber 13 = .ok (.lconst 1, 1) := by decide +kernel
theorem dX5_cellWithNumber_14 : decode cX5_cellWithNumber 14 = .ok (.lsub, 1) := by decide +kernel
theorem dX5_cellWithNumber_15 : decode cX5_cellWithNumber 15 = .ok (.land, 1) := by decide +kernel
theorem dX5_cellWithNumber_16 : decode cX5_cellWithNumber 16 = .ok (.lstore_n 3, 1) := by decide +kernel
theorem dX5_cellWithNumber_17 : decode cX5_cellWithNumber 17 = .ok (.iinc 5 1, 3) := by decide +kernel
theorem dX5_cellWithNumber_20 : decode cX5_cellWithNumber 20 = .ok (.goto (-15), 3) := by decide +kernel
theorem dX5_cellWithNumber_23 : decode cX5_cellWithNumber 23 = .ok (.lload_n 3, 1) := by decide +kernel
theorem dX5_cellWithNumber_24 : decode cX5_cellWithNumber 24 = .ok (.lload_n 3, 1) := by decide +kernel
theorem dX5_cellWithNumber_25 : decode cX5_cellWithNumber 25 = .ok (.lneg, 1) := by decide +kernel
theorem dX5_cellWithNumber_26 : decode cX5_cellWithNumber 26 = .ok (.land, 1) := by decide +kernel
theorem dX5_cellWithNumber_27 : decode cX5_cellWithNumber 27 = .ok (.lreturn, 1) := by decide +kernel
theorem dX5_nextSubset_0 : decode cX5_nextSubset 0 = .ok (.lload_n 0, 1) := by decide +kernel
theorem dX5_nextSubset_1 : decode cX5_nextSubset 1 = .ok (.lload_n 2, 1) := by decide +kernel
theorem dX5_nextSubset_2 : decode cX5_nextSubset 2 = .ok (.lsub, 1) := by decide +kernel
theorem dX5_nextSubset_3 : decode cX5_nextSubset 3 = .ok (.lload_n 2, 1) := by decide +kernel
theorem dX5_nextSubset_4 : decode cX5_nextSubset 4 = .ok (.land, 1) := by decide +kernel
theorem dX5_nextSubset_5 : decode cX5_nextSubset 5 = .ok (.lreturn, 1) := by decide +kernel
theorem dX5_chainAround_0 : decode cX5_chainAround 0 = .ok (.lconst 1, 1) := by decide +kernel
theorem dX5_chainAround_1 : decode cX5_chainAround 1 = .ok (.iload_n 1, 1) := by decide +kernel
theorem dX5_chainAround_2 : decode cX5_chainAround 2 = .ok (.lshl, 1) := by decide +kernel
theorem dX5_chainAround_3 : decode cX5_chainAround 3 = .ok (.lstore_n 2, 1) := by decide +kernel
theorem dX5_chainAround_4 : decode cX5_chainAround 4 = .ok (.aload_n 0, 1) := by decide +kernel
theorem dX5_chainAround_5 : decode cX5_chainAround 5 = .ok (.getfield 52, 3) := by decide +kernel
theorem dX5_chainAround_8 : decode cX5_chainAround 8 = .ok (.aload_n 0, 1) := by decide +kernel
theorem dX5_chainAround_9 : decode cX5_chainAround 9 = .ok (.getfield 52, 3) := by decide +kernel
theorem dX5_chainAround_12 : decode cX5_chainAround 12 = .ok (.iconst 0, 1) := by decide +kernel
theorem dX5_chainAround_13 : decode cX5_chainAround 13 = .ok (.invokevirtual 101, 3) := by decide +kernel
theorem dX5_chainAround_16 : decode cX5_chainAround 16 = .ok (.lload_n 2, 1) := by decide +kernel
theorem dX5_chainAround_17 : decode cX5_chainAround 17 = .ok (.land, 1) := by decide +kernel
theorem dX5_chainAround_18 : decode cX5_chainAround 18 = .ok (.lconst 0, 1) := by decide +kernel
theorem dX5_chainAround_19 : decode cX5_chainAround 19 = .ok (.lcmp, 1) := by decide +kernel
theorem dX5_chainAround_20 : decode cX5_chainAround 20 = .ok (.ifCond .eq 7, 3) := by decide +kernel
theorem dX5_chainAround_23 : decode cX5_chainAround 23 = .ok (.iconst 0, 1) := by decide +kernel
theorem dX5_chainAround_24 : decode cX5_chainAround 24 = .ok (.goto 4, 3) := by decide +kernel
theorem dX5_chainAround_27 : decode cX5_chainAround 27 = .ok (.iconst 1, 1) := by decide +kernel
theorem dX5_chainAround_28 : decode cX5_chainAround 28 = .ok (.invokevirtual 101, 3) := by decide +kernel
theorem dX5_chainAround_31 : decode cX5_chainAround 31 = .ok (.lstore 4, 2) := by decide +kernel
theorem dX5_chainAround_33 : decode cX5_chainAround 33 = .ok (.aload_n 0, 1) := by decide +kernel
theorem dX5_chainAround_34 : decode cX5_chainAround 34 = .ok (.getfield 52, 3) := by decide +kernel
theorem dX5_chainAround_37 : decode cX5_chainAround 37 = .ok (.getfield 66, 3) := by decide +kernel
theorem dX5_chainAround_40 : decode cX5_chainAround 40 = .ok (.lload_n 2, 1) := by decide +kernel
theorem dX5_chainAround_41 : decode cX5_chainAround 41 = .ok (.lload 4, 2) := by decide +kernel
theorem dX5_chainAround_43 : decode cX5_chainAround 43 = .ok (.invokevirtual 134, 3) := by decide +kernel
theorem dX5_chainAround_46 : decode cX5_chainAround 46 = .ok (.lreturn, 1) := by decide +kernel
theorem dX5_findBridges_0 : decode cX5_findBridges 0 = .ok (.aload_n 0, 1) := by decide +kernel
theorem dX5_findBridges_1 : decode cX5_findBridges 1 = .ok (.getfield 52, 3) := by decide +kernel
theorem dX5_findBridges_4 : decode cX5_findBridges 4 = .ok (.getfield 66, 3) := by decide +kernel
theorem dX5_findBridges_7 : decode cX5_findBridges 7 = .ok (.astore 5, 2) := by decide +kernel
theorem dX5_findBridges_9 : decode cX5_findBridges 9 = .ok (.iconst 0, 1) := by decide +kernel
theorem dX5_findBridges_10 : decode cX5_findBridges 10 = .ok (.istore 6, 2) := by decide +kernel
theorem dX5_findBridges_12 : decode cX5_findBridges 12 = .ok (.iconst 0, 1) := by decide +kernel
theorem dX5_findBridges_13 : decode cX5_findBridges 13 = .ok (.istore 7, 2) := by decide +kernel
theorem dX5_findBridges_15 : decode cX5_findBridges 15 = .ok (.iload 7, 2) := by decide +kernel
theorem dX5_findBridges_17 : decode cX5_findBridges 17 = .ok (.aload 5, 2) := by decide +kernel
theorem dX5_findBridges_19 : decode cX5_findBridges 19 = .ok (.getfield 301, 3) := by decide +kernel
theorem dX5_findBridges_22 : decode cX5_findBridges 22 = .ok (.if_icmp .ge 117, 3) := by decide +kernel
theorem dX5_findBridges_25 : decode cX5_findBridges 25 = .ok (.aload_n 0, 1) := by decide +kernel
theorem dX5_findBridges_26 : decode cX5_findBridges 26 = .ok (.lload_n 1, 1) := by decide +kernel
theorem dX5_findBridges_27 : decode cX5_findBridges 27 = .ok (.lconst 1, 1) := by decide +kernel
theorem dX5_findBridges_28 : decode cX5_findBridges 28 = .ok (.iload 7, 2) := by decide +kernel
theorem dX5_findBridges_30 : decode cX5_findBridges 30 = .ok (.lshl, 1) := by decide +kernel
theorem dX5_findBridges_31 : decode cX5_findBridges 31 = .ok (.land, 1) := by decide +kernel
theorem dX5_findBridges_32 : decode cX5_findBridges 32 = .ok (.lload_n 1, 1) := by decide +kernel
theorem dX5_findBridges_33 : decode cX5_findBridges 33 = .ok (.invokevirtual 304, 3) := by decide +kernel
theorem dX5_findBridges_36 : decode cX5_findBridges 36 = .ok (.lstore 8, 2) := by decide +kernel
theorem dX5_findBridges_38 : decode cX5_findBridges 38 = .ok (.iconst 0, 1) := by decide +kernel
theorem dX5_findBridges_39 : decode cX5_findBridges 39 = .ok (.istore 10, 2) := by decide +kernel
theorem dX5_findBridges_41 : decode cX5_findBridges 41 = .ok (.iload 10, 2) := by decide +kernel
theorem dX5_findBridges_43 : decode cX5_findBridges 43 = .ok (.bipush 49, 2) := by decide +kernel
theorem dX5_findBridges_45 : decode cX5_findBridges 45 = .ok (.if_icmp .ge 88, 3) := by decide +kernel
theorem dX5_findBridges_48 : decode cX5_findBridges 48 = .ok (.lload 8, 2) := by decide +kernel
theorem dX5_findBridges_50 : decode cX5_findBridges 50 = .ok (.lconst 0, 1) := by decide +kernel
theorem dX5_findBridges_51 : decode cX5_findBridges 51 = .ok (.lcmp, 1) := by decide +kernel
theorem dX5_findBridges_52 : decode cX5_findBridges 52 = .ok (.ifCond .eq 81, 3) := by decide +kernel
theorem dX5_findBridges_55 : decode cX5_findBridges 55 = .ok (.iload 7, 2) := by decide +kernel
theorem dX5_findBridges_57 : decode cX5_findBridges 57 = .ok (.bipush 64, 2) := by decide +kernel
theorem dX5_findBridges_59 : decode cX5_findBridges 59 = .ok (.imul, 1) := by decide +kernel
theorem dX5_findBridges_60 : decode cX5_findBridges 60 = .ok (.lload 8, 2) := by decide +kernel
theorem dX5_findBridges_62 : decode cX5_findBridges 62 = .ok (.invokestatic 105, 3) := by decide +kernel
theorem dX5_findBridges_65 : decode cX5_findBridges 65 = .ok (.iadd, 1) := by decide +kernel
theorem dX5_findBridges_66 : decode cX5_findBridges 66 = .ok (.istore 11, 2) := by decide +kernel
theorem dX5_findBridges_68 : decode cX5_findBridges 68 = .ok (.aload_n 0, 1) := by decide +kernel
theorem dX5_findBridges_69 : decode cX5_findBridges 69 = .ok (.iload 11, 2) := by decide +kernel
theorem dX5_findBridges_71 : decode cX5_findBridges 71 = .ok (.invokevirtual 159, 3) := by decide +kernel
theorem dX5_findBridges_74 : decode cX5_findBridges 74 = .ok (.lstore 12, 2) := by decide +kernel
theorem dX5_findBridges_76 : decode cX5_findBridges 76 = .ok (.lload 12, 2) := by decide +kernel
theorem dX5_findBridges_78 : decode cX5_findBridges 78 = .ok (.invokestatic 177, 3) := by decide +kernel
theorem dX5_findBridges_81 : decode cX5_findBridges 81 = .ok (.iconst 2, 1) := by decide +kernel
theorem dX5_findBridges_82 : decode cX5_findBridges 82 = .ok (.if_icmp .ne 36, 3) := by decide +kernel
theorem dX5_findBridges_85 : decode cX5_findBridges 85 = .ok (.lload 12, 2) := by decide +kernel
theorem dX5_findBridges_87 : decode cX5_findBridges 87 = .ok (.lload_n 3, 1) := by decide +kernel
theorem dX5_findBridges_88 : decode cX5_findBridges 88 = .ok (.ldc2_w 138, 3) := by decide +kernel
theorem dX5_findBridges_91 : decode cX5_findBridges 91 = .ok (.lxor, 1) := by decide +kernel
theorem dX5_findBridges_92 : decode cX5_findBridges 92 = .ok (.land, 1) := by decide +kernel
theorem dX5_findBridges_93 : decode cX5_findBridges 93 = .ok (.lconst 0, 1) := by decide +kernel
theorem dX5_findBridges_94 : decode cX5_findBridges 94 = .ok (.lcmp, 1) := by decide +kernel
theorem dX5_findBridges_95 : decode cX5_findBridges 95 = .ok (.ifCond .ne 23, 3) := by decide +kernel
theorem dX5_findBridges_98 : decode cX5_findBridges 98 = .ok (.iload 6, 2) := by decide +kernel
theorem dX5_findBridges_100 : decode cX5_findBridges 100 = .ok (.sipush 147, 3) := by decide +kernel
theorem dX5_findBridges_103 : decode cX5_findBridges 103 = .ok (.if_icmp .ge 15, 3) := by decide +kernel
theorem dX5_findBridges_106 : decode cX5_findBridges 106 = .ok (.aload_n 0, 1) := by decide +kernel
theorem dX5_findBridges_107 : decode cX5_findBridges 107 = .ok (.getfield 29, 3) := by decide +kernel
theorem dX5_findBridges_110 : decode cX5_findBridges 110 = .ok (.iload 6, 2) := by decide +kernel
theorem dX5_findBridges_112 : decode cX5_findBridges 112 = .ok (.iload 11, 2) := by decide +kernel
theorem dX5_findBridges_114 : decode cX5_findBridges 114 = .ok (.iastore, 1) := by decide +kernel
theorem dX5_findBridges_115 : decode cX5_findBridges 115 = .ok (.iinc 6 1, 3) := by decide +kernel
theorem dX5_findBridges_118 : decode cX5_findBridges 118 = .ok (.lload 8, 2) := by decide +kernel
theorem dX5_findBridges_120 : decode cX5_findBridges 120 = .ok (.lload 8, 2) := by decide +kernel
theorem dX5_findBridges_122 : decode cX5_findBridges 122 = .ok (.lconst 1, 1) := by decide +kernel
theorem dX5_findBridges_123 : decode cX5_findBridges 123 = .ok (.lsub, 1) := by decide +kernel
theorem dX5_findBridges_124 : decode cX5_findBridges 124 = .ok (.land, 1) := by decide +kernel
theorem dX5_findBridges_125 : decode cX5_findBridges 125 = .ok (.lstore 8, 2) := by decide +kernel
theorem dX5_findBridges_127 : decode cX5_findBridges 127 = .ok (.iinc 10 1, 3) := by decide +kernel
theorem dX5_findBridges_130 : decode cX5_findBridges 130 = .ok (.goto (-89), 3) := by decide +kernel
theorem dX5_findBridges_133 : decode cX5_findBridges 133 = .ok (.iinc 7 1, 3) := by decide +kernel
theorem dX5_findBridges_136 : decode cX5_findBridges 136 = .ok (.goto (-121), 3) := by decide +kernel
theorem dX5_findBridges_139 : decode cX5_findBridges 139 = .ok (.iload 6, 2) := by decide +kernel
theorem dX5_findBridges_141 : decode cX5_findBridges 141 = .ok (.ireturn, 1) := by decide +kernel
theorem dX5_bridgePartners_0 : decode cX5_bridgePartners 0 = .ok (.lload_n 1, 1) := by decide +kernel
theorem dX5_bridgePartners_1 : decode cX5_bridgePartners 1 = .ok (.iconst 1, 1) := by decide +kernel
theorem dX5_bridgePartners_2 : decode cX5_bridgePartners 2 = .ok (.lshl, 1) := by decide +kernel
theorem dX5_bridgePartners_3 : decode cX5_bridgePartners 3 = .ok (.lneg, 1) := by decide +kernel
theorem dX5_bridgePartners_4 : decode cX5_bridgePartners 4 = .ok (.lstore 5, 2) := by decide +kernel
theorem dX5_bridgePartners_6 : decode cX5_bridgePartners 6 = .ok (.aload_n 0, 1) := by decide +kernel
theorem dX5_bridgePartners_7 : decode cX5_bridgePartners 7 = .ok (.getfield 52, 3) := by decide +kernel
theorem dX5_bridgePartners_10 : decode cX5_bridgePartners 10 = .ok (.getfield 66, 3) := by decide +kernel
theorem dX5_bridgePartners_13 : decode cX5_bridgePartners 13 = .ok (.lload_n 1, 1) := by decide +kernel
theorem dX5_bridgePartners_14 : decode cX5_bridgePartners 14 = .ok (.invokevirtual 130, 3) := by decide +kernel
theorem dX5_bridgePartners_17 : decode cX5_bridgePartners 17 = .ok (.lstore 7, 2) := by decide +kernel
theorem dX5_bridgePartners_19 : decode cX5_bridgePartners 19 = .ok (.lload_n 3, 1) := by decide +kernel
theorem dX5_bridgePartners_20 : decode cX5_bridgePartners 20 = .ok (.lload 5, 2) := by decide +kernel
theorem dX5_bridgePartners_22 : decode cX5_bridgePartners 22 = .ok (.land, 1) := by decide +kernel
theorem dX5_bridgePartners_23 : decode cX5_bridgePartners 23 = .ok (.aload_n 0, 1) := by decide +kernel
theorem dX5_bridgePartners_24 : decode cX5_bridgePartners 24 = .ok (.getfield 52, 3) := by decide +kernel
theorem dX5_bridgePartners_27 : decode cX5_bridgePartners 27 = .ok (.getfield 66, 3) := by decide +kernel
theorem dX5_bridgePartners_30 : decode cX5_bridgePartners 30 = .ok (.lload 7, 2) := by decide +kernel
theorem dX5_bridgePartners_32 : decode cX5_bridgePartners 32 = .ok (.invokevirtual 130, 3) := by decide +kernel
theorem dX5_bridgePartners_35 : decode cX5_bridgePartners 35 = .ok (.land, 1) := by decide +kernel
theorem dX5_bridgePartners_36 : decode cX5_bridgePartners 36 = .ok (.lload 7, 2) := by decide +kernel
theorem dX5_bridgePartners_38 : decode cX5_bridgePartners 38 = .ok (.ldc2_w 138, 3) := by decide +kernel
theorem dX5_bridgePartners_41 : decode cX5_bridgePartners 41 = .ok (.lxor, 1) := by decide +kernel
theorem dX5_bridgePartners_42 : decode cX5_bridgePartners 42 = .ok (.land, 1) := by decide +kernel
theorem dX5_bridgePartners_43 : decode cX5_bridgePartners 43 = .ok (.lreturn, 1) := by decide +kernel
theorem dX5_carrierOf_0 : decode cX5_carrierOf 0 = .ok (.aload_n 0, 1) := by decide +kernel
theorem dX5_carrierOf_1 : decode cX5_carrierOf 1 = .ok (.getfield 52, 3) := by decide +kernel
theorem dX5_carrierOf_4 : decode cX5_carrierOf 4 = .ok (.getfield 66, 3) := by decide +kernel
theorem dX5_carrierOf_7 : decode cX5_carrierOf 7 = .ok (.astore_n 2, 1) := by decide +kernel
theorem dX5_carrierOf_8 : decode cX5_carrierOf 8 = .ok (.aload_n 2, 1) := by decide +kernel
theorem dX5_carrierOf_9 : decode cX5_carrierOf 9 = .ok (.lconst 1, 1) := by decide +kernel
theorem dX5_carrierOf_10 : decode cX5_carrierOf 10 = .ok (.iload_n 1, 1) := by decide +kernel
theorem dX5_carrierOf_11 : decode cX5_carrierOf 11 = .ok (.bipush 6, 2) := by decide +kernel
theorem dX5_carrierOf_13 : decode cX5_carrierOf 13 = .ok (.iushr, 1) := by decide +kernel
theorem dX5_carrierOf_14 : decode cX5_carrierOf 14 = .ok (.lshl, 1) := by decide +kernel
theorem dX5_carrierOf_15 : decode cX5_carrierOf 15 = .ok (.invokevirtual 130, 3) := by decide +kernel
theorem dX5_carrierOf_18 : decode cX5_carrierOf 18 = .ok (.aload_n 2, 1) := by decide +kernel
theorem dX5_carrierOf_19 : decode cX5_carrierOf 19 = .ok (.lconst 1, 1) := by decide +kernel
theorem dX5_carrierOf_20 : decode cX5_carrierOf 20 = .ok (.iload_n 1, 1) := by decide +kernel
theorem dX5_carrierOf_21 : decode cX5_carrierOf 21 = .ok (.bipush 63, 2) := by decide +kernel
theorem dX5_carrierOf_23 : decode cX5_carrierOf 23 = .ok (.iand, 1) := by decide +kernel
theorem dX5_carrierOf_24 : decode cX5_carrierOf 24 = .ok (.lshl, 1) := by decide +kernel
theorem dX5_carrierOf_25 : decode cX5_carrierOf 25 = .ok (.invokevirtual 130, 3) := by decide +kernel
theorem dX5_carrierOf_28 : decode cX5_carrierOf 28 = .ok (.land, 1) := by decide +kernel
theorem dX5_carrierOf_29 : decode cX5_carrierOf 29 = .ok (.lreturn, 1) := by decide +kernel
theorem dX5_outcomeOfGame_0 : decode cX5_outcomeOfGame 0 = .ok (.aload_n 0, 1) := by decide +kernel
theorem dX5_outcomeOfGame_1 : decode cX5_outcomeOfGame 1 = .ok (.getfield 52, 3) := by decide +kernel
theorem dX5_outcomeOfGame_4 : decode cX5_outcomeOfGame 4 = .ok (.getfield 66, 3) := by decide +kernel
theorem dX5_outcomeOfGame_7 : decode cX5_outcomeOfGame 7 = .ok (.astore_n 1, 1) := by decide +kernel
theorem dX5_outcomeOfGame_8 : decode cX5_outcomeOfGame 8 = .ok (.aload_n 0, 1) := by decide +kernel
theorem dX5_outcomeOfGame_9 : decode cX5_outcomeOfGame 9 = .ok (.getfield 62, 3) := by decide +kernel
theorem dX5_outcomeOfGame_12 : decode cX5_outcomeOfGame 12 = .ok (.aload_n 1, 1) := by decide +kernel
theorem dX5_outcomeOfGame_13 : decode cX5_outcomeOfGame 13 = .ok (.aload_n 1, 1) := by decide +kernel
theorem dX5_outcomeOfGame_14 : decode cX5_outcomeOfGame 14 = .ok (.getfield 193, 3) := by decide +kernel
theorem dX5_outcomeOfGame_17 : decode cX5_outcomeOfGame 17 = .ok (.aload_n 1, 1) := by decide +kernel
theorem dX5_outcomeOfGame_18 : decode cX5_outcomeOfGame 18 = .ok (.getfield 197, 3) := by decide +kernel
theorem dX5_outcomeOfGame_21 : decode cX5_outcomeOfGame 21 = .ok (.aload_n 0, 1) := by decide +kernel
theorem dX5_outcomeOfGame_22 : decode cX5_outcomeOfGame 22 = .ok (.getfield 52, 3) := by decide +kernel
theorem dX5_outcomeOfGame_25 : decode cX5_outcomeOfGame 25 = .ok (.invokevirtual 151, 3) := by decide +kernel
theorem dX5_outcomeOfGame_28 : decode cX5_outcomeOfGame 28 = .ok (.invokevirtual 200, 3) := by decide +kernel
theorem dX5_outcomeOfGame_31 : decode cX5_outcomeOfGame 31 = .ok (.aload_n 0, 1) := by decide +kernel
theorem dX5_outcomeOfGame_32 : decode cX5_outcomeOfGame 32 = .ok (.getfield 62, 3) := by decide +kernel
theorem dX5_outcomeOfGame_35 : decode cX5_outcomeOfGame 35 = .ok (.aload_n 0, 1) := by decide +kernel
theorem dX5_outcomeOfGame_36 : decode cX5_outcomeOfGame 36 = .ok (.getfield 52, 3) := by decide +kernel
theorem dX5_outcomeOfGame_39 : decode cX5_outcomeOfGame 39 = .ok (.iconst 0, 1) := by decide +kernel
theorem dX5_outcomeOfGame_40 : decode cX5_outcomeOfGame 40 = .ok (.invokevirtual 101, 3) := by decide +kernel
theorem dX5_outcomeOfGame_43 : decode cX5_outcomeOfGame 43 = .ok (.aload_n 0, 1) := by decide +kernel
theorem dX5_outcomeOfGame_44 : decode cX5_outcomeOfGame 44 = .ok (.getfield 52, 3) := by decide +kernel
theorem dX5_outcomeOfGame_47 : decode cX5_outcomeOfGame 47 = .ok (.invokevirtual 151, 3) := by decide +kernel
theorem dX5_outcomeOfGame_50 : decode cX5_outcomeOfGame 50 = .ok (.aload_n 0, 1) := by decide +kernel
theorem dX5_outcomeOfGame_51 : decode cX5_outcomeOfGame 51 = .ok (.getfield 52, 3) := by decide +kernel
theorem dX5_outcomeOfGame_54 : decode cX5_outcomeOfGame 54 = .ok (.invokevirtual 122, 3) := by decide +kernel
theorem dX5_outcomeOfGame_57 : decode cX5_outcomeOfGame 57 = .ok (.ifCond .ne 7, 3) := by decide +kernel
theorem dX5_outcomeOfGame_60 : decode cX5_outcomeOfGame 60 = .ok (.iconst 1, 1) := by decide +kernel
theorem dX5_outcomeOfGame_61 : decode cX5_outcomeOfGame 61 = .ok (.goto 4, 3) := by decide +kernel
theorem dX5_outcomeOfGame_64 : decode cX5_outcomeOfGame 64 = .ok (.iconst 0, 1) := by decide +kernel
theorem dX5_outcomeOfGame_65 : decode cX5_outcomeOfGame 65 = .ok (.invokevirtual 307, 3) := by decide +kernel
theorem dX5_outcomeOfGame_68 : decode cX5_outcomeOfGame 68 = .ok (.ireturn, 1) := by decide +kernel
theorem dX5_isPlace_0 : decode cX5_isPlace 0 = .ok (.iload_n 1, 1) := by decide +kernel
theorem dX5_isPlace_1 : decode cX5_isPlace 1 = .ok (.bipush (-4), 2) := by decide +kernel
theorem dX5_isPlace_3 : decode cX5_isPlace 3 = .ok (.if_icmp .lt 21, 3) := by decide +kernel
theorem dX5_isPlace_6 : decode cX5_isPlace 6 = .ok (.iload_n 1, 1) := by decide +kernel
theorem dX5_isPlace_7 : decode cX5_isPlace 7 = .ok (.aload_n 0, 1) := by decide +kernel
theorem dX5_isPlace_8 : decode cX5_isPlace 8 = .ok (.getfield 52, 3) := by decide +kernel
theorem dX5_isPlace_11 : decode cX5_isPlace 11 = .ok (.getfield 66, 3) := by decide +kernel
theorem dX5_isPlace_14 : decode cX5_isPlace 14 = .ok (.getfield 301, 3) := by decide +kernel
theorem dX5_isPlace_17 : decode cX5_isPlace 17 = .ok (.if_icmp .ge 7, 3) := by decide +kernel
theorem dX5_isPlace_20 : decode cX5_isPlace 20 = .ok (.iconst 1, 1) := by decide +kernel
theorem dX5_isPlace_21 : decode cX5_isPlace 21 = .ok (.goto 4, 3) := by decide +kernel
theorem dX5_isPlace_24 : decode cX5_isPlace 24 = .ok (.iconst 0, 1) := by decide +kernel
theorem dX5_isPlace_25 : decode cX5_isPlace 25 = .ok (.ireturn, 1) := by decide +kernel
theorem dX5_regionError_0 : decode cX5_regionError 0 = .ok (.iload_n 1, 1) := by decide +kernel
theorem dX5_regionError_1 : decode cX5_regionError 1 = .ok (.invokestatic 125, 3) := by decide +kernel
theorem dX5_regionError_4 : decode cX5_regionError 4 = .ok (.ifCond .eq 24, 3) := by decide +kernel
theorem dX5_regionError_7 : decode cX5_regionError 7 = .ok (.aload_n 0, 1) := by decide +kernel
theorem dX5_regionError_8 : decode cX5_regionError 8 = .ok (.iload_n 2, 1) := by decide +kernel
theorem dX5_regionError_9 : decode cX5_regionError 9 = .ok (.invokevirtual 311, 3) := by decide +kernel
theorem dX5_regionError_12 : decode cX5_regionError 12 = .ok (.ifCond .eq 16, 3) := by decide +kernel
theorem dX5_regionError_15 : decode cX5_regionError 15 = .ok (.aload_n 0, 1) := by decide +kernel
theorem dX5_regionError_16 : decode cX5_regionError 16 = .ok (.iload_n 3, 1) := by decide +kernel
theorem dX5_regionError_17 : decode cX5_regionError 17 = .ok (.invokevirtual 311, 3) := by decide +kernel
theorem dX5_regionError_20 : decode cX5_regionError 20 = .ok (.ifCond .eq 8, 3) := by decide +kernel
theorem dX5_regionError_23 : decode cX5_regionError 23 = .ok (.iload_n 2, 1) := by decide +kernel
theorem dX5_regionError_24 : decode cX5_regionError 24 = .ok (.iload_n 3, 1) := by decide +kernel
theorem dX5_regionError_25 : decode cX5_regionError 25 = .ok (.if_icmp .ne 6, 3) := by decide +kernel
theorem dX5_regionError_28 : decode cX5_regionError 28 = .ok (.bipush (-11), 2) := by decide +kernel
theorem dX5_regionError_30 : decode cX5_regionError 30 = .ok (.ireturn, 1) := by decide +kernel
theorem dX5_regionError_31 : decode cX5_regionError 31 = .ok (.lload 4, 2) := by decide +kernel
theorem dX5_regionError_33 : decode cX5_regionError 33 = .ok (.aload_n 0, 1) := by decide +kernel
theorem dX5_regionError_34 : decode cX5_regionError 34 = .ok (.getfield 52, 3) := by decide +kernel
theorem dX5_regionError_37 : decode cX5_regionError 37 = .ok (.invokevirtual 151, 3) := by decide +kernel
theorem dX5_regionError_40 : decode cX5_regionError 40 = .ok (.ldc2_w 138, 3) := by decide +kernel
theorem dX5_regionError_43 : decode cX5_regionError 43 = .ok (.lxor, 1) := by decide +kernel
theorem dX5_regionError_44 : decode cX5_regionError 44 = .ok (.land, 1) := by decide +kernel
theorem dX5_regionError_45 : decode cX5_regionError 45 = .ok (.lconst 0, 1) := by decide +kernel
theorem dX5_regionError_46 : decode cX5_regionError 46 = .ok (.lcmp, 1) := by decide +kernel
theorem dX5_regionError_47 : decode cX5_regionError 47 = .ok (.ifCond .ne 13, 3) := by decide +kernel
theorem dX5_regionError_50 : decode cX5_regionError 50 = .ok (.lload 4, 2) := by decide +kernel
theorem dX5_regionError_52 : decode cX5_regionError 52 = .ok (.invokestatic 177, 3) := by decide +kernel
theorem dX5_regionError_55 : decode cX5_regionError 55 = .ok (.iload 6, 2) := by decide +kernel
theorem dX5_regionError_57 : decode cX5_regionError 57 = .ok (.if_icmp .le 6, 3) := by decide +kernel
theorem dX5_regionError_60 : decode cX5_regionError 60 = .ok (.bipush (-12), 2) := by decide +kernel
theorem dX5_regionError_62 : decode cX5_regionError 62 = .ok (.ireturn, 1) := by decide +kernel
theorem dX5_regionError_63 : decode cX5_regionError 63 = .ok (.iconst 0, 1) := by decide +kernel
theorem dX5_regionError_64 : decode cX5_regionError 64 = .ok (.ireturn, 1) := by decide +kernel
theorem dX5_canConnect_0 : decode cX5_canConnect 0 = .ok (.aload_n 0, 1) := by decide +kernel
theorem dX5_canConnect_1 : decode cX5_canConnect 1 = .ok (.getfield 52, 3) := by decide +kernel
theorem dX5_canConnect_4 : decode cX5_canConnect 4 = .ok (.getfield 66, 3) := by decide +kernel
theorem dX5_canConnect_7 : decode cX5_canConnect 7 = .ok (.astore 7, 2) := by decide +kernel
theorem dX5_canConnect_9 : decode cX5_canConnect 9 = .ok (.aload_n 0, 1) := by decide +kernel
theorem dX5_canConnect_10 : decode cX5_canConnect 10 = .ok (.getfield 62, 3) := by decide +kernel
theorem dX5_canConnect_13 : decode cX5_canConnect 13 = .ok (.aload 7, 2) := by decide +kernel
theorem dX5_canConnect_15 : decode cX5_canConnect 15 = .ok (.aload 7, 2) := by decide +kernel
theorem dX5_canConnect_17 : decode cX5_canConnect 17 = .ok (.iload_n 2, 1) := by decide +kernel
theorem dX5_canConnect_18 : decode cX5_canConnect 18 = .ok (.invokevirtual 314, 3) := by decide +kernel
theorem dX5_canConnect_21 : decode cX5_canConnect 21 = .ok (.aload 7, 2) := by decide +kernel
theorem dX5_canConnect_23 : decode cX5_canConnect 23 = .ok (.iload_n 3, 1) := by decide +kernel
theorem dX5_canConnect_24 : decode cX5_canConnect 24 = .ok (.invokevirtual 314, 3) := by decide +kernel
theorem dX5_canConnect_27 : decode cX5_canConnect 27 = .ok (.lload 4, 2) := by decide +kernel
theorem dX5_canConnect_29 : decode cX5_canConnect 29 = .ok (.invokevirtual 200, 3) := by decide +kernel
theorem dX5_canConnect_32 : decode cX5_canConnect 32 = .ok (.aload_n 0, 1) := by decide +kernel
theorem dX5_canConnect_33 : decode cX5_canConnect 33 = .ok (.getfield 62, 3) := by decide +kernel
theorem dX5_canConnect_36 : decode cX5_canConnect 36 = .ok (.aload_n 0, 1) := by decide +kernel
theorem dX5_canConnect_37 : decode cX5_canConnect 37 = .ok (.getfield 52, 3) := by decide +kernel
theorem dX5_canConnect_40 : decode cX5_canConnect 40 = .ok (.iload_n 1, 1) := by decide +kernel
theorem dX5_canConnect_41 : decode cX5_canConnect 41 = .ok (.invokevirtual 101, 3) := by decide +kernel
theorem dX5_canConnect_44 : decode cX5_canConnect 44 = .ok (.lload 4, 2) := by decide +kernel
theorem dX5_canConnect_46 : decode cX5_canConnect 46 = .ok (.iload 6, 2) := by decide +kernel
theorem dX5_canConnect_48 : decode cX5_canConnect 48 = .ok (.invokevirtual 307, 3) := by decide +kernel
theorem dX5_canConnect_51 : decode cX5_canConnect 51 = .ok (.invokestatic 190, 3) := by decide +kernel
theorem dX5_canConnect_54 : decode cX5_canConnect 54 = .ok (.ireturn, 1) := by decide +kernel
theorem dX5_isValidThreat_0 : decode cX5_isValidThreat 0 = .ok (.iload_n 1, 1) := by decide +kernel
theorem dX5_isValidThreat_1 : decode cX5_isValidThreat 1 = .ok (.ifCond .lt 53, 3) := by decide +kernel
theorem dX5_isValidThreat_4 : decode cX5_isValidThreat 4 = .ok (.iload_n 1, 1) := by decide +kernel
theorem dX5_isValidThreat_5 : decode cX5_isValidThreat 5 = .ok (.aload_n 0, 1) := by decide +kernel
theorem dX5_isValidThreat_6 : decode cX5_isValidThreat 6 = .ok (.getfield 77, 3) := by decide +kernel
theorem dX5_isValidThreat_9 : decode cX5_isValidThreat 9 = .ok (.if_icmp .ge 45, 3) := by decide +kernel
theorem dX5_isValidThreat_12 : decode cX5_isValidThreat 12 = .ok (.iload_n 1, 1) := by decide +kernel
theorem dX5_isValidThreat_13 : decode cX5_isValidThreat 13 = .ok (.bipush 6, 2) := by decide +kernel
theorem dX5_isValidThreat_15 : decode cX5_isValidThreat 15 = .ok (.if_icmp .ge 39, 3) := by decide +kernel
theorem dX5_isValidThreat_18 : decode cX5_isValidThreat 18 = .ok (.aload_n 0, 1) := by decide +kernel
theorem dX5_isValidThreat_19 : decode cX5_isValidThreat 19 = .ok (.getfield 33, 3) := by decide +kernel
theorem dX5_isValidThreat_22 : decode cX5_isValidThreat 22 = .ok (.iload_n 1, 1) := by decide +kernel
theorem dX5_isValidThreat_23 : decode cX5_isValidThreat 23 = .ok (.iaload, 1) := by decide +kernel
theorem dX5_isValidThreat_24 : decode cX5_isValidThreat 24 = .ok (.iload_n 2, 1) := by decide +kernel
theorem dX5_isValidThreat_25 : decode cX5_isValidThreat 25 = .ok (.if_icmp .ne 29, 3) := by decide +kernel
theorem dX5_isValidThreat_28 : decode cX5_isValidThreat 28 = .ok (.aload_n 0, 1) := by decide +kernel
theorem dX5_isValidThreat_29 : decode cX5_isValidThreat 29 = .ok (.getfield 36, 3) := by decide +kernel
theorem dX5_isValidThreat_32 : decode cX5_isValidThreat 32 = .ok (.iload_n 1, 1) := by decide +kernel
theorem dX5_isValidThreat_33 : decode cX5_isValidThreat 33 = .ok (.laload, 1) := by decide +kernel
theorem dX5_isValidThreat_34 : decode cX5_isValidThreat 34 = .ok (.aload_n 0, 1) := by decide +kernel
theorem dX5_isValidThreat_35 : decode cX5_isValidThreat 35 = .ok (.getfield 52, 3) := by decide +kernel
theorem dX5_isValidThreat_38 : decode cX5_isValidThreat 38 = .ok (.iconst 1, 1) := by decide +kernel
theorem dX5_isValidThreat_39 : decode cX5_isValidThreat 39 = .ok (.iload_n 2, 1) := by decide +kernel
theorem dX5_isValidThreat_40 : decode cX5_isValidThreat 40 = .ok (.isub, 1) := by decide +kernel
theorem dX5_isValidThreat_41 : decode cX5_isValidThreat 41 = .ok (.invokevirtual 101, 3) := by decide +kernel
theorem dX5_isValidThreat_44 : decode cX5_isValidThreat 44 = .ok (.land, 1) := by decide +kernel
theorem dX5_isValidThreat_45 : decode cX5_isValidThreat 45 = .ok (.lconst 0, 1) := by decide +kernel
theorem dX5_isValidThreat_46 : decode cX5_isValidThreat 46 = .ok (.lcmp, 1) := by decide +kernel
theorem dX5_isValidThreat_47 : decode cX5_isValidThreat 47 = .ok (.ifCond .ne 7, 3) := by decide +kernel
theorem dX5_isValidThreat_50 : decode cX5_isValidThreat 50 = .ok (.iconst 1, 1) := by decide +kernel
theorem dX5_isValidThreat_51 : decode cX5_isValidThreat 51 = .ok (.goto 4, 3) := by decide +kernel
theorem dX5_isValidThreat_54 : decode cX5_isValidThreat 54 = .ok (.iconst 0, 1) := by decide +kernel
theorem dX5_isValidThreat_55 : decode cX5_isValidThreat 55 = .ok (.ireturn, 1) := by decide +kernel
theorem dX5_tryText_0 : decode cX5_tryText 0 = .ok (.aload_n 0, 1) := by decide +kernel
theorem dX5_tryText_1 : decode cX5_tryText 1 = .ok (.getfield 56, 3) := by decide +kernel
theorem dX5_tryText_4 : decode cX5_tryText 4 = .ok (.aload_n 0, 1) := by decide +kernel
theorem dX5_tryText_5 : decode cX5_tryText 5 = .ok (.getfield 52, 3) := by decide +kernel
theorem dX5_tryText_8 : decode cX5_tryText 8 = .ok (.getfield 66, 3) := by decide +kernel
theorem dX5_tryText_11 : decode cX5_tryText 11 = .ok (.invokevirtual 74, 3) := by decide +kernel
theorem dX5_tryText_14 : decode cX5_tryText 14 = .ok (.iconst 0, 1) := by decide +kernel
theorem dX5_tryText_15 : decode cX5_tryText 15 = .ok (.istore_n 1, 1) := by decide +kernel
theorem dX5_tryText_16 : decode cX5_tryText 16 = .ok (.iconst 0, 1) := by decide +kernel
theorem dX5_tryText_17 : decode cX5_tryText 17 = .ok (.istore_n 2, 1) := by decide +kernel
theorem dX5_tryText_18 : decode cX5_tryText 18 = .ok (.iload_n 2, 1) := by decide +kernel
theorem dX5_tryText_19 : decode cX5_tryText 19 = .ok (.bipush 100, 2) := by decide +kernel
theorem dX5_tryText_21 : decode cX5_tryText 21 = .ok (.if_icmp .ge 67, 3) := by decide +kernel
theorem dX5_tryText_24 : decode cX5_tryText 24 = .ok (.iload_n 1, 1) := by decide +kernel
theorem dX5_tryText_25 : decode cX5_tryText 25 = .ok (.aload_n 0, 1) := by decide +kernel
theorem dX5_tryText_26 : decode cX5_tryText 26 = .ok (.getfield 249, 3) := by decide +kernel
theorem dX5_tryText_29 : decode cX5_tryText 29 = .ok (.if_icmp .ge 59, 3) := by decide +kernel
theorem dX5_tryText_32 : decode cX5_tryText 32 = .ok (.aload_n 0, 1) := by decide +kernel
theorem dX5_tryText_33 : decode cX5_tryText 33 = .ok (.iload_n 1, 1) := by decide +kernel
theorem dX5_tryText_34 : decode cX5_tryText 34 = .ok (.invokevirtual 317, 3) := by decide +kernel
theorem dX5_tryText_37 : decode cX5_tryText 37 = .ok (.istore_n 3, 1) := by decide +kernel
theorem dX5_tryText_38 : decode cX5_tryText 38 = .ok (.aload_n 0, 1) := by decide +kernel
theorem dX5_tryText_39 : decode cX5_tryText 39 = .ok (.iload_n 1, 1) := by decide +kernel
theorem dX5_tryText_40 : decode cX5_tryText 40 = .ok (.iload_n 3, 1) := by decide +kernel
theorem dX5_tryText_41 : decode cX5_tryText 41 = .ok (.invokevirtual 320, 3) := by decide +kernel
theorem dX5_tryText_44 : decode cX5_tryText 44 = .ok (.istore 4, 2) := by decide +kernel
theorem dX5_tryText_46 : decode cX5_tryText 46 = .ok (.iload 4, 2) := by decide +kernel
theorem dX5_tryText_48 : decode cX5_tryText 48 = .ok (.bipush (-15), 2) := by decide +kernel
theorem dX5_tryText_50 : decode cX5_tryText 50 = .ok (.if_icmp .eq 6, 3) := by decide +kernel
theorem dX5_tryText_53 : decode cX5_tryText 53 = .ok (.iload 4, 2) := by decide +kernel
theorem dX5_tryText_55 : decode cX5_tryText 55 = .ok (.ireturn, 1) := by decide +kernel
theorem dX5_tryText_56 : decode cX5_tryText 56 = .ok (.aload_n 0, 1) := by decide +kernel
theorem dX5_tryText_57 : decode cX5_tryText 57 = .ok (.getfield 56, 3) := by decide +kernel
theorem dX5_tryText_60 : decode cX5_tryText 60 = .ok (.iload_n 3, 1) := by decide +kernel
theorem dX5_tryText_61 : decode cX5_tryText 61 = .ok (.iconst 1, 1) := by decide +kernel
theorem dX5_tryText_62 : decode cX5_tryText 62 = .ok (.if_icmp .ne 8, 3) := by decide +kernel
theorem dX5_tryText_65 : decode cX5_tryText 65 = .ok (.bipush (-16), 2) := by decide +kernel
theorem dX5_tryText_67 : decode cX5_tryText 67 = .ok (.goto 8, 3) := by decide +kernel
theorem dX5_tryText_70 : decode cX5_tryText 70 = .ok (.aload_n 0, 1) := by decide +kernel
theorem dX5_tryText_71 : decode cX5_tryText 71 = .ok (.iload_n 1, 1) := by decide +kernel
theorem dX5_tryText_72 : decode cX5_tryText 72 = .ok (.invokevirtual 324, 3) := by decide +kernel
theorem dX5_tryText_75 : decode cX5_tryText 75 = .ok (.invokevirtual 91, 3) := by decide +kernel
theorem dX5_tryText_78 : decode cX5_tryText 78 = .ok (.iload_n 1, 1) := by decide +kernel
theorem dX5_tryText_79 : decode cX5_tryText 79 = .ok (.iload_n 3, 1) := by decide +kernel
theorem dX5_tryText_80 : decode cX5_tryText 80 = .ok (.iadd, 1) := by decide +kernel
theorem dX5_tryText_81 : decode cX5_tryText 81 = .ok (.istore_n 1, 1) := by decide +kernel
theorem dX5_tryText_82 : decode cX5_tryText 82 = .ok (.iinc 2 1, 3) := by decide +kernel
theorem dX5_tryText_85 : decode cX5_tryText 85 = .ok (.goto (-67), 3) := by decide +kernel
theorem dX5_tryText_88 : decode cX5_tryText 88 = .ok (.bipush (-15), 2) := by decide +kernel
theorem dX5_tryText_90 : decode cX5_tryText 90 = .ok (.ireturn, 1) := by decide +kernel
theorem dX5_letterAt_0 : decode cX5_letterAt 0 = .ok (.iload_n 1, 1) := by decide +kernel
theorem dX5_letterAt_1 : decode cX5_letterAt 1 = .ok (.ifCond .lt 26, 3) := by decide +kernel
theorem dX5_letterAt_4 : decode cX5_letterAt 4 = .ok (.iload_n 1, 1) := by decide +kernel
theorem dX5_letterAt_5 : decode cX5_letterAt 5 = .ok (.aload_n 0, 1) := by decide +kernel
theorem dX5_letterAt_6 : decode cX5_letterAt 6 = .ok (.getfield 249, 3) := by decide +kernel
theorem dX5_letterAt_9 : decode cX5_letterAt 9 = .ok (.if_icmp .ge 18, 3) := by decide +kernel
theorem dX5_letterAt_12 : decode cX5_letterAt 12 = .ok (.iload_n 1, 1) := by decide +kernel
theorem dX5_letterAt_13 : decode cX5_letterAt 13 = .ok (.bipush 100, 2) := by decide +kernel
theorem dX5_letterAt_15 : decode cX5_letterAt 15 = .ok (.if_icmp .ge 12, 3) := by decide +kernel
theorem dX5_letterAt_18 : decode cX5_letterAt 18 = .ok (.aload_n 0, 1) := by decide +kernel
theorem dX5_letterAt_19 : decode cX5_letterAt 19 = .ok (.getfield 40, 3) := by decide +kernel
theorem dX5_letterAt_22 : decode cX5_letterAt 22 = .ok (.iload_n 1, 1) := by decide +kernel
theorem dX5_letterAt_23 : decode cX5_letterAt 23 = .ok (.baload, 1) := by decide +kernel
theorem dX5_letterAt_24 : decode cX5_letterAt 24 = .ok (.goto 5, 3) := by decide +kernel
theorem dX5_letterAt_27 : decode cX5_letterAt 27 = .ok (.bipush (-15), 2) := by decide +kernel
theorem dX5_letterAt_29 : decode cX5_letterAt 29 = .ok (.ireturn, 1) := by decide +kernel
theorem dX5_moveLength_0 : decode cX5_moveLength 0 = .ok (.aload_n 0, 1) := by decide +kernel
theorem dX5_moveLength_1 : decode cX5_moveLength 1 = .ok (.iload_n 1, 1) := by decide +kernel
theorem dX5_moveLength_2 : decode cX5_moveLength 2 = .ok (.invokevirtual 327, 3) := by decide +kernel
theorem dX5_moveLength_5 : decode cX5_moveLength 5 = .ok (.bipush 83, 2) := by decide +kernel
theorem dX5_moveLength_7 : decode cX5_moveLength 7 = .ok (.if_icmp .ne 7, 3) := by decide +kernel
theorem dX5_moveLength_10 : decode cX5_moveLength 10 = .ok (.iconst 1, 1) := by decide +kernel
theorem dX5_moveLength_11 : decode cX5_moveLength 11 = .ok (.goto 4, 3) := by decide +kernel
theorem dX5_moveLength_14 : decode cX5_moveLength 14 = .ok (.iconst 2, 1) := by decide +kernel
theorem dX5_moveLength_15 : decode cX5_moveLength 15 = .ok (.ireturn, 1) := by decide +kernel
theorem dX5_cellAt_0 : decode cX5_cellAt 0 = .ok (.aload_n 0, 1) := by decide +kernel
theorem dX5_cellAt_1 : decode cX5_cellAt 1 = .ok (.iload_n 1, 1) := by decide +kernel
theorem dX5_cellAt_2 : decode cX5_cellAt 2 = .ok (.iconst 1, 1) := by decide +kernel
theorem dX5_cellAt_3 : decode cX5_cellAt 3 = .ok (.iadd, 1) := by decide +kernel
theorem dX5_cellAt_4 : decode cX5_cellAt 4 = .ok (.invokevirtual 327, 3) := by decide +kernel
theorem dX5_cellAt_7 : decode cX5_cellAt 7 = .ok (.bipush 49, 2) := by decide +kernel
theorem dX5_cellAt_9 : decode cX5_cellAt 9 = .ok (.isub, 1) := by decide +kernel
theorem dX5_cellAt_10 : decode cX5_cellAt 10 = .ok (.aload_n 0, 1) := by decide +kernel
theorem dX5_cellAt_11 : decode cX5_cellAt 11 = .ok (.getfield 52, 3) := by decide +kernel
theorem dX5_cellAt_14 : decode cX5_cellAt 14 = .ok (.getfield 66, 3) := by decide +kernel
theorem dX5_cellAt_17 : decode cX5_cellAt 17 = .ok (.getfield 70, 3) := by decide +kernel
theorem dX5_cellAt_20 : decode cX5_cellAt 20 = .ok (.imul, 1) := by decide +kernel
theorem dX5_cellAt_21 : decode cX5_cellAt 21 = .ok (.aload_n 0, 1) := by decide +kernel
theorem dX5_cellAt_22 : decode cX5_cellAt 22 = .ok (.iload_n 1, 1) := by decide +kernel
theorem dX5_cellAt_23 : decode cX5_cellAt 23 = .ok (.invokevirtual 327, 3) := by decide +kernel
theorem dX5_cellAt_26 : decode cX5_cellAt 26 = .ok (.iadd, 1) := by decide +kernel
theorem dX5_cellAt_27 : decode cX5_cellAt 27 = .ok (.bipush 97, 2) := by decide +kernel
theorem dX5_cellAt_29 : decode cX5_cellAt 29 = .ok (.isub, 1) := by decide +kernel
theorem dX5_cellAt_30 : decode cX5_cellAt 30 = .ok (.ireturn, 1) := by decide +kernel
theorem dX5_faultOfMove_0 : decode cX5_faultOfMove 0 = .ok (.aload_n 0, 1) := by decide +kernel
theorem dX5_faultOfMove_1 : decode cX5_faultOfMove 1 = .ok (.getfield 52, 3) := by decide +kernel
theorem dX5_faultOfMove_4 : decode cX5_faultOfMove 4 = .ok (.getfield 66, 3) := by decide +kernel
theorem dX5_faultOfMove_7 : decode cX5_faultOfMove 7 = .ok (.getfield 70, 3) := by decide +kernel
theorem dX5_faultOfMove_10 : decode cX5_faultOfMove 10 = .ok (.istore_n 3, 1) := by decide +kernel
theorem dX5_faultOfMove_11 : decode cX5_faultOfMove 11 = .ok (.aload_n 0, 1) := by decide +kernel
theorem dX5_faultOfMove_12 : decode cX5_faultOfMove 12 = .ok (.getfield 56, 3) := by decide +kernel
theorem dX5_faultOfMove_15 : decode cX5_faultOfMove 15 = .ok (.invokevirtual 87, 3) := by decide +kernel
theorem dX5_faultOfMove_18 : decode cX5_faultOfMove 18 = .ok (.bipush (-15), 2) := by decide +kernel
theorem dX5_faultOfMove_20 : decode cX5_faultOfMove 20 = .ok (.if_icmp .eq 5, 3) := by decide +kernel
theorem dX5_faultOfMove_23 : decode cX5_faultOfMove 23 = .ok (.iload_n 1, 1) := by decide +kernel
theorem dX5_faultOfMove_24 : decode cX5_faultOfMove 24 = .ok (.ireturn, 1) := by decide +kernel
theorem dX5_faultOfMove_25 : decode cX5_faultOfMove 25 = .ok (.iload_n 2, 1) := by decide +kernel
theorem dX5_faultOfMove_26 : decode cX5_faultOfMove 26 = .ok (.iconst 1, 1) := by decide +kernel
theorem dX5_faultOfMove_27 : decode cX5_faultOfMove 27 = .ok (.if_icmp .ne 20, 3) := by decide +kernel
theorem dX5_faultOfMove_30 : decode cX5_faultOfMove 30 = .ok (.aload_n 0, 1) := by decide +kernel
theorem dX5_faultOfMove_31 : decode cX5_faultOfMove 31 = .ok (.getfield 56, 3) := by decide +kernel
theorem dX5_faultOfMove_34 : decode cX5_faultOfMove 34 = .ok (.invokevirtual 97, 3) := by decide +kernel
theorem dX5_faultOfMove_37 : decode cX5_faultOfMove 37 = .ok (.ifCond .eq 8, 3) := by decide +kernel
theorem dX5_faultOfMove_40 : decode cX5_faultOfMove 40 = .ok (.bipush (-15), 2) := by decide +kernel
theorem dX5_faultOfMove_42 : decode cX5_faultOfMove 42 = .ok (.goto 4, 3) := by decide +kernel
theorem dX5_faultOfMove_45 : decode cX5_faultOfMove 45 = .ok (.iload_n 1, 1) := by decide +kernel
theorem dX5_faultOfMove_46 : decode cX5_faultOfMove 46 = .ok (.ireturn, 1) := by decide +kernel
theorem dX5_faultOfMove_47 : decode cX5_faultOfMove 47 = .ok (.aload_n 0, 1) := by decide +kernel
theorem dX5_faultOfMove_48 : decode cX5_faultOfMove 48 = .ok (.iload_n 1, 1) := by decide +kernel
theorem dX5_faultOfMove_49 : decode cX5_faultOfMove 49 = .ok (.invokevirtual 327, 3) := by decide +kernel
theorem dX5_faultOfMove_52 : decode cX5_faultOfMove 52 = .ok (.bipush 97, 2) := by decide +kernel
theorem dX5_faultOfMove_54 : decode cX5_faultOfMove 54 = .ok (.if_icmp .lt 15, 3) := by decide +kernel
theorem dX5_faultOfMove_57 : decode cX5_faultOfMove 57 = .ok (.aload_n 0, 1) := by decide +kernel
theorem dX5_faultOfMove_58 : decode cX5_faultOfMove 58 = .ok (.iload_n 1, 1) := by decide +kernel
theorem dX5_faultOfMove_59 : decode cX5_faultOfMove 59 = .ok (.invokevirtual 327, 3) := by decide +kernel
theorem dX5_faultOfMove_62 : decode cX5_faultOfMove 62 = .ok (.bipush 97, 2) := by decide +kernel
theorem dX5_faultOfMove_64 : decode cX5_faultOfMove 64 = .ok (.iload_n 3, 1) := by decide +kernel
theorem dX5_faultOfMove_65 : decode cX5_faultOfMove 65 = .ok (.iadd, 1) := by decide +kernel
theorem dX5_faultOfMove_66 : decode cX5_faultOfMove 66 = .ok (.if_icmp .lt 5, 3) := by decide +kernel
theorem dX5_faultOfMove_69 : decode cX5_faultOfMove 69 = .ok (.iload_n 1, 1) := by decide +kernel
theorem dX5_faultOfMove_70 : decode cX5_faultOfMove 70 = .ok (.ireturn, 1) := by decide +kernel
theorem dX5_faultOfMove_71 : decode cX5_faultOfMove 71 = .ok (.aload_n 0, 1) := by decide +kernel
theorem dX5_faultOfMove_72 : decode cX5_faultOfMove 72 = .ok (.iload_n 1, 1) := by decide +kernel
theorem dX5_faultOfMove_73 : decode cX5_faultOfMove 73 = .ok (.iconst 1, 1) := by decide +kernel
theorem dX5_faultOfMove_74 : decode cX5_faultOfMove 74 = .ok (.iadd, 1) := by decide +kernel
theorem dX5_faultOfMove_75 : decode cX5_faultOfMove 75 = .ok (.invokevirtual 327, 3) := by decide +kernel
theorem dX5_faultOfMove_78 : decode cX5_faultOfMove 78 = .ok (.bipush 49, 2) := by decide +kernel
theorem dX5_faultOfMove_80 : decode cX5_faultOfMove 80 = .ok (.if_icmp .lt 32, 3) := by decide +kernel
theorem dX5_faultOfMove_83 : decode cX5_faultOfMove 83 = .ok (.aload_n 0, 1) := by decide +kernel
theorem dX5_faultOfMove_84 : decode cX5_faultOfMove 84 = .ok (.iload_n 1, 1) := by decide +kernel
theorem dX5_faultOfMove_85 : decode cX5_faultOfMove 85 = .ok (.iconst 1, 1) := by decide +kernel
theorem dX5_faultOfMove_86 : decode cX5_faultOfMove 86 = .ok (.iadd, 1) := by decide +kernel
theorem dX5_faultOfMove_87 : decode cX5_faultOfMove 87 = .ok (.invokevirtual 327, 3) := by decide +kernel
theorem dX5_faultOfMove_90 : decode cX5_faultOfMove 90 = .ok (.bipush 49, 2) := by decide +kernel
theorem dX5_faultOfMove_92 : decode cX5_faultOfMove 92 = .ok (.iload_n 3, 1) := by decide +kernel
theorem dX5_faultOfMove_93 : decode cX5_faultOfMove 93 = .ok (.iadd, 1) := by decide +kernel
theorem dX5_faultOfMove_94 : decode cX5_faultOfMove 94 = .ok (.if_icmp .ge 18, 3) := by decide +kernel
theorem dX5_faultOfMove_97 : decode cX5_faultOfMove 97 = .ok (.aload_n 0, 1) := by decide +kernel
theorem dX5_faultOfMove_98 : decode cX5_faultOfMove 98 = .ok (.getfield 56, 3) := by decide +kernel
theorem dX5_faultOfMove_101 : decode cX5_faultOfMove 101 = .ok (.aload_n 0, 1) := by decide +kernel
theorem dX5_faultOfMove_102 : decode cX5_faultOfMove 102 = .ok (.iload_n 1, 1) := by decide +kernel
theorem dX5_faultOfMove_103 : decode cX5_faultOfMove 103 = .ok (.invokevirtual 324, 3) := by decide +kernel
theorem dX5_faultOfMove_106 : decode cX5_faultOfMove 106 = .ok (.invokevirtual 84, 3) := by decide +kernel
theorem dX5_faultOfMove_109 : decode cX5_faultOfMove 109 = .ok (.ifCond .ne 7, 3) := by decide +kernel
theorem dX5_faultOfMove_112 : decode cX5_faultOfMove 112 = .ok (.iload_n 1, 1) := by decide +kernel
theorem dX5_faultOfMove_113 : decode cX5_faultOfMove 113 = .ok (.iconst 1, 1) := by decide +kernel
theorem dX5_faultOfMove_114 : decode cX5_faultOfMove 114 = .ok (.iadd, 1) := by decide +kernel
theorem dX5_faultOfMove_115 : decode cX5_faultOfMove 115 = .ok (.ireturn, 1) := by decide +kernel
theorem dX5_faultOfMove_116 : decode cX5_faultOfMove 116 = .ok (.bipush (-15), 2) := by decide +kernel
theorem dX5_faultOfMove_118 : decode cX5_faultOfMove 118 = .ok (.ireturn, 1) := by decide +kernel
