theorem dX6_init_0 : decode cX6_init 0 = .ok (.aload_n 0, 1) := by decide +kernel
theorem dX6_init_1 : decode cX6_init 1 = .ok (.invokespecial 1, 3) := by decide +kernel
theorem dX6_init_4 : decode cX6_init 4 = .ok (.aload_n 0, 1) := by decide +kernel
theorem dX6_init_5 : decode cX6_init 5 = .ok (.iconst 5, 1) := by decide +kernel
theorem dX6_init_6 : decode cX6_init 6 = .ok (.putfield 7, 3) := by decide +kernel
theorem dX6_init_9 : decode cX6_init 9 = .ok (.aload_n 0, 1) := by decide +kernel
theorem dX6_init_10 : decode cX6_init 10 = .ok (.bipush 64, 2) := by decide +kernel
theorem dX6_init_12 : decode cX6_init 12 = .ok (.newarray .int, 2) := by decide +kernel
theorem dX6_init_14 : decode cX6_init 14 = .ok (.putfield 13, 3) := by decide +kernel
theorem dX6_init_17 : decode cX6_init 17 = .ok (.aload_n 0, 1) := by decide +kernel
theorem dX6_init_18 : decode cX6_init 18 = .ok (.bipush 49, 2) := by decide +kernel
theorem dX6_init_20 : decode cX6_init 20 = .ok (.newarray .long, 2) := by decide +kernel
theorem dX6_init_22 : decode cX6_init 22 = .ok (.putfield 17, 3) := by decide +kernel
theorem dX6_init_25 : decode cX6_init 25 = .ok (.aload_n 0, 1) := by decide +kernel
theorem dX6_init_26 : decode cX6_init 26 = .ok (.sipush 140, 3) := by decide +kernel
theorem dX6_init_29 : decode cX6_init 29 = .ok (.newarray .int, 2) := by decide +kernel
theorem dX6_init_31 : decode cX6_init 31 = .ok (.putfield 21, 3) := by decide +kernel
theorem dX6_init_34 : decode cX6_init 34 = .ok (.aload_n 0, 1) := by decide +kernel
theorem dX6_init_35 : decode cX6_init 35 = .ok (.iconst 2, 1) := by decide +kernel
theorem dX6_init_36 : decode cX6_init 36 = .ok (.newarray .boolean, 2) := by decide +kernel
theorem dX6_init_38 : decode cX6_init 38 = .ok (.putfield 24, 3) := by decide +kernel
theorem dX6_init_41 : decode cX6_init 41 = .ok (.aload_n 0, 1) := by decide +kernel
theorem dX6_init_42 : decode cX6_init 42 = .ok (.bipush 6, 2) := by decide +kernel
theorem dX6_init_44 : decode cX6_init 44 = .ok (.newarray .int, 2) := by decide +kernel
theorem dX6_init_46 : decode cX6_init 46 = .ok (.putfield 28, 3) := by decide +kernel
theorem dX6_init_49 : decode cX6_init 49 = .ok (.aload_n 0, 1) := by decide +kernel
theorem dX6_init_50 : decode cX6_init 50 = .ok (.bipush 6, 2) := by decide +kernel
theorem dX6_init_52 : decode cX6_init 52 = .ok (.newarray .long, 2) := by decide +kernel
theorem dX6_init_54 : decode cX6_init 54 = .ok (.putfield 31, 3) := by decide +kernel
theorem dX6_init_57 : decode cX6_init 57 = .ok (.aload_n 0, 1) := by decide +kernel
theorem dX6_init_58 : decode cX6_init 58 = .ok (.bipush 100, 2) := by decide +kernel
theorem dX6_init_60 : decode cX6_init 60 = .ok (.newarray .int, 2) := by decide +kernel
theorem dX6_init_62 : decode cX6_init 62 = .ok (.putfield 34, 3) := by decide +kernel
theorem dX6_init_65 : decode cX6_init 65 = .ok (.aload_n 0, 1) := by decide +kernel
theorem dX6_init_66 : decode cX6_init 66 = .ok (.bipush 49, 2) := by decide +kernel
theorem dX6_init_68 : decode cX6_init 68 = .ok (.newarray .int, 2) := by decide +kernel
theorem dX6_init_70 : decode cX6_init 70 = .ok (.putfield 37, 3) := by decide +kernel
theorem dX6_init_73 : decode cX6_init 73 = .ok (.aload_n 0, 1) := by decide +kernel
theorem dX6_init_74 : decode cX6_init 74 = .ok (.bipush 49, 2) := by decide +kernel
theorem dX6_init_76 : decode cX6_init 76 = .ok (.newarray .int, 2) := by decide +kernel
theorem dX6_init_78 : decode cX6_init 78 = .ok (.putfield 40, 3) := by decide +kernel
theorem dX6_init_81 : decode cX6_init 81 = .ok (.aload_n 0, 1) := by decide +kernel
theorem dX6_init_82 : decode cX6_init 82 = .ok (.bipush 49, 2) := by decide +kernel
theorem dX6_init_84 : decode cX6_init 84 = .ok (.newarray .int, 2) := by decide +kernel
theorem dX6_init_86 : decode cX6_init 86 = .ok (.putfield 43, 3) := by decide +kernel
theorem dX6_init_89 : decode cX6_init 89 = .ok (.aload_n 0, 1) := by decide +kernel
theorem dX6_init_90 : decode cX6_init 90 = .ok (.sipush 4096, 3) := by decide +kernel
theorem dX6_init_93 : decode cX6_init 93 = .ok (.newarray .boolean, 2) := by decide +kernel
theorem dX6_init_95 : decode cX6_init 95 = .ok (.putfield 46, 3) := by decide +kernel
theorem dX6_init_98 : decode cX6_init 98 = .ok (.aload_n 0, 1) := by decide +kernel
theorem dX6_init_99 : decode cX6_init 99 = .ok (.sipush 19683, 3) := by decide +kernel
theorem dX6_init_102 : decode cX6_init 102 = .ok (.newarray .int, 2) := by decide +kernel
theorem dX6_init_104 : decode cX6_init 104 = .ok (.putfield 49, 3) := by decide +kernel
theorem dX6_init_107 : decode cX6_init 107 = .ok (.aload_n 0, 1) := by decide +kernel
theorem dX6_init_108 : decode cX6_init 108 = .ok (.sipush 19683, 3) := by decide +kernel
theorem dX6_init_111 : decode cX6_init 111 = .ok (.newarray .int, 2) := by decide +kernel
theorem dX6_init_113 : decode cX6_init 113 = .ok (.putfield 52, 3) := by decide +kernel
theorem dX6_init_116 : decode cX6_init 116 = .ok (.aload_n 0, 1) := by decide +kernel
theorem dX6_init_117 : decode cX6_init 117 = .ok (.bipush 10, 2) := by decide +kernel
theorem dX6_init_119 : decode cX6_init 119 = .ok (.newarray .int, 2) := by decide +kernel
theorem dX6_init_121 : decode cX6_init 121 = .ok (.putfield 55, 3) := by decide +kernel
theorem dX6_init_124 : decode cX6_init 124 = .ok (.aload_n 0, 1) := by decide +kernel
theorem dX6_init_125 : decode cX6_init 125 = .ok (.bipush 64, 2) := by decide +kernel
theorem dX6_init_127 : decode cX6_init 127 = .ok (.newarray .int, 2) := by decide +kernel
theorem dX6_init_129 : decode cX6_init 129 = .ok (.putfield 58, 3) := by decide +kernel
theorem dX6_init_132 : decode cX6_init 132 = .ok (.aload_n 0, 1) := by decide +kernel
theorem dX6_init_133 : decode cX6_init 133 = .ok (.invokevirtual 61, 3) := by decide +kernel
theorem dX6_init_136 : decode cX6_init 136 = .ok (.return_, 1) := by decide +kernel
theorem dX6_in_0 : decode cX6_in 0 = .ok (.iload_n 0, 1) := by decide +kernel
theorem dX6_in_1 : decode cX6_in 1 = .ok (.iload_n 1, 1) := by decide +kernel
theorem dX6_in_2 : decode cX6_in 2 = .ok (.if_icmp .lt 12, 3) := by decide +kernel
theorem dX6_in_5 : decode cX6_in 5 = .ok (.iload_n 0, 1) := by decide +kernel
theorem dX6_in_6 : decode cX6_in 6 = .ok (.iload_n 2, 1) := by decide +kernel
theorem dX6_in_7 : decode cX6_in 7 = .ok (.if_icmp .gt 7, 3) := by decide +kernel
theorem dX6_in_10 : decode cX6_in 10 = .ok (.iconst 1, 1) := by decide +kernel
theorem dX6_in_11 : decode cX6_in 11 = .ok (.goto 4, 3) := by decide +kernel
theorem dX6_in_14 : decode cX6_in 14 = .ok (.iconst 0, 1) := by decide +kernel
theorem dX6_in_15 : decode cX6_in 15 = .ok (.ireturn, 1) := by decide +kernel
theorem dX6_has_0 : decode cX6_has 0 = .ok (.lload_n 0, 1) := by decide +kernel
theorem dX6_has_1 : decode cX6_has 1 = .ok (.iload_n 2, 1) := by decide +kernel
theorem dX6_has_2 : decode cX6_has 2 = .ok (.lshr, 1) := by decide +kernel
theorem dX6_has_3 : decode cX6_has 3 = .ok (.lconst 1, 1) := by decide +kernel
theorem dX6_has_4 : decode cX6_has 4 = .ok (.land, 1) := by decide +kernel
theorem dX6_has_5 : decode cX6_has 5 = .ok (.lconst 1, 1) := by decide +kernel
theorem dX6_has_6 : decode cX6_has 6 = .ok (.lcmp, 1) := by decide +kernel
theorem dX6_has_7 : decode cX6_has 7 = .ok (.ifCond .ne 7, 3) := by decide +kernel
theorem dX6_has_10 : decode cX6_has 10 = .ok (.iconst 1, 1) := by decide +kernel
theorem dX6_has_11 : decode cX6_has 11 = .ok (.goto 4, 3) := by decide +kernel
theorem dX6_has_14 : decode cX6_has 14 = .ok (.iconst 0, 1) := by decide +kernel
theorem dX6_has_15 : decode cX6_has 15 = .ok (.ireturn, 1) := by decide +kernel
theorem dX6_size_0 : decode cX6_size 0 = .ok (.iconst 0, 1) := by decide +kernel
theorem dX6_size_1 : decode cX6_size 1 = .ok (.istore_n 2, 1) := by decide +kernel
theorem dX6_size_2 : decode cX6_size 2 = .ok (.lload_n 0, 1) := by decide +kernel
theorem dX6_size_3 : decode cX6_size 3 = .ok (.lstore_n 3, 1) := by decide +kernel
theorem dX6_size_4 : decode cX6_size 4 = .ok (.lload_n 3, 1) := by decide +kernel
theorem dX6_size_5 : decode cX6_size 5 = .ok (.lconst 0, 1) := by decide +kernel
theorem dX6_size_6 : decode cX6_size 6 = .ok (.lcmp, 1) := by decide +kernel
theorem dX6_size_7 : decode cX6_size 7 = .ok (.ifCond .eq 15, 3) := by decide +kernel
theorem dX6_size_10 : decode cX6_size 10 = .ok (.iinc 2 1, 3) := by decide +kernel
theorem dX6_size_13 : decode cX6_size 13 = .ok (.lload_n 3, 1) := by decide +kernel
theorem dX6_size_14 : decode cX6_size 14 = .ok (.lload_n 3, 1) := by decide +kernel
theorem dX6_size_15 : decode cX6_size 15 = .ok (.lconst 1, 1) := by decide +kernel
theorem dX6_size_16 : decode cX6_size 16 = .ok (.lsub, 1) := by decide +kernel
theorem dX6_size_17 : decode cX6_size 17 = .ok (.land, 1) := by decide +kernel
theorem dX6_size_18 : decode cX6_size 18 = .ok (.lstore_n 3, 1) := by decide +kernel
theorem dX6_size_19 : decode cX6_size 19 = .ok (.goto (-15), 3) := by decide +kernel
theorem dX6_size_22 : decode cX6_size 22 = .ok (.iload_n 2, 1) := by decide +kernel
theorem dX6_size_23 : decode cX6_size 23 = .ok (.ireturn, 1) := by decide +kernel
theorem dX6_joins_0 : decode cX6_joins 0 = .ok (.iload_n 2, 1) := by decide +kernel
theorem dX6_joins_1 : decode cX6_joins 1 = .ok (.iconst 0, 1) := by decide +kernel
theorem dX6_joins_2 : decode cX6_joins 2 = .ok (.aload_n 0, 1) := by decide +kernel
theorem dX6_joins_3 : decode cX6_joins 3 = .ok (.getfield 7, 3) := by decide +kernel
theorem dX6_joins_6 : decode cX6_joins 6 = .ok (.iconst 1, 1) := by decide +kernel
theorem dX6_joins_7 : decode cX6_joins 7 = .ok (.isub, 1) := by decide +kernel
theorem dX6_joins_8 : decode cX6_joins 8 = .ok (.invokestatic 64, 3) := by decide +kernel
theorem dX6_joins_11 : decode cX6_joins 11 = .ok (.ifCond .eq 36, 3) := by decide +kernel
theorem dX6_joins_14 : decode cX6_joins 14 = .ok (.iload_n 3, 1) := by decide +kernel
theorem dX6_joins_15 : decode cX6_joins 15 = .ok (.iconst 0, 1) := by decide +kernel
theorem dX6_joins_16 : decode cX6_joins 16 = .ok (.aload_n 0, 1) := by decide +kernel
theorem dX6_joins_17 : decode cX6_joins 17 = .ok (.getfield 7, 3) := by decide +kernel
theorem dX6_joins_20 : decode cX6_joins 20 = .ok (.iconst 1, 1) := by decide +kernel
theorem dX6_joins_21 : decode cX6_joins 21 = .ok (.isub, 1) := by decide +kernel
theorem dX6_joins_22 : decode cX6_joins 22 = .ok (.invokestatic 64, 3) := by decide +kernel
theorem dX6_joins_25 : decode cX6_joins 25 = .ok (.ifCond .eq 22, 3) := by decide +kernel
theorem dX6_joins_28 : decode cX6_joins 28 = .ok (.aload_n 0, 1) := by decide +kernel
theorem dX6_joins_29 : decode cX6_joins 29 = .ok (.getfield 17, 3) := by decide +kernel
theorem dX6_joins_32 : decode cX6_joins 32 = .ok (.iload_n 1, 1) := by decide +kernel
theorem dX6_joins_33 : decode cX6_joins 33 = .ok (.dup2, 1) := by decide +kernel
theorem dX6_joins_34 : decode cX6_joins 34 = .ok (.laload, 1) := by decide +kernel
theorem dX6_joins_35 : decode cX6_joins 35 = .ok (.lconst 1, 1) := by decide +kernel
theorem dX6_joins_36 : decode cX6_joins 36 = .ok (.iload_n 2, 1) := by decide +kernel
theorem dX6_joins_37 : decode cX6_joins 37 = .ok (.aload_n 0, 1) := by decide +kernel
theorem dX6_joins_38 : decode cX6_joins 38 = .ok (.getfield 7, 3) := by decide +kernel
theorem dX6_joins_41 : decode cX6_joins 41 = .ok (.imul, 1) := by decide +kernel
theorem dX6_joins_42 : decode cX6_joins 42 = .ok (.iload_n 3, 1) := by decide +kernel
theorem dX6_joins_43 : decode cX6_joins 43 = .ok (.iadd, 1) := by decide +kernel
theorem dX6_joins_44 : decode cX6_joins 44 = .ok (.lshl, 1) := by decide +kernel
theorem dX6_joins_45 : decode cX6_joins 45 = .ok (.lor, 1) := by decide +kernel
theorem dX6_joins_46 : decode cX6_joins 46 = .ok (.lastore, 1) := by decide +kernel
theorem dX6_joins_47 : decode cX6_joins 47 = .ok (.return_, 1) := by decide +kernel
theorem dX6_shapes_0 : decode cX6_shapes 0 = .ok (.iconst 0, 1) := by decide +kernel
theorem dX6_shapes_1 : decode cX6_shapes 1 = .ok (.istore_n 1, 1) := by decide +kernel
theorem dX6_shapes_2 : decode cX6_shapes 2 = .ok (.iload_n 1, 1) := by decide +kernel
theorem dX6_shapes_3 : decode cX6_shapes 3 = .ok (.aload_n 0, 1) := by decide +kernel
theorem dX6_shapes_4 : decode cX6_shapes 4 = .ok (.getfield 7, 3) := by decide +kernel
theorem dX6_shapes_7 : decode cX6_shapes 7 = .ok (.aload_n 0, 1) := by decide +kernel
theorem dX6_shapes_8 : decode cX6_shapes 8 = .ok (.getfield 7, 3) := by decide +kernel
theorem dX6_shapes_11 : decode cX6_shapes 11 = .ok (.imul, 1) := by decide +kernel
theorem dX6_shapes_12 : decode cX6_shapes 12 = .ok (.if_icmp .ge 88, 3) := by decide +kernel
theorem dX6_shapes_15 : decode cX6_shapes 15 = .ok (.iload_n 1, 1) := by decide +kernel
theorem dX6_shapes_16 : decode cX6_shapes 16 = .ok (.aload_n 0, 1) := by decide +kernel
theorem dX6_shapes_17 : decode cX6_shapes 17 = .ok (.getfield 7, 3) := by decide +kernel
theorem dX6_shapes_20 : decode cX6_shapes 20 = .ok (.idiv, 1) := by decide +kernel
theorem dX6_shapes_21 : decode cX6_shapes 21 = .ok (.istore_n 2, 1) := by decide +kernel
theorem dX6_shapes_22 : decode cX6_shapes 22 = .ok (.iload_n 1, 1) := by decide +kernel
theorem dX6_shapes_23 : decode cX6_shapes 23 = .ok (.aload_n 0, 1) := by decide +kernel
theorem dX6_shapes_24 : decode cX6_shapes 24 = .ok (.getfield 7, 3) := by decide +kernel
theorem dX6_shapes_27 : decode cX6_shapes 27 = .ok (.irem, 1) := by decide +kernel
theorem dX6_shapes_28 : decode cX6_shapes 28 = .ok (.istore_n 3, 1) := by decide +kernel
theorem dX6_shapes_29 : decode cX6_shapes 29 = .ok (.aload_n 0, 1) := by decide +kernel
theorem dX6_shapes_30 : decode cX6_shapes 30 = .ok (.getfield 17, 3) := by decide +kernel
theorem dX6_shapes_33 : decode cX6_shapes 33 = .ok (.iload_n 1, 1) := by decide +kernel
theorem dX6_shapes_34 : decode cX6_shapes 34 = .ok (.lconst 0, 1) := by decide +kernel
theorem dX6_shapes_35 : decode cX6_shapes 35 = .ok (.lastore, 1) := by decide +kernel
theorem dX6_shapes_36 : decode cX6_shapes 36 = .ok (.aload_n 0, 1) := by decide +kernel
theorem dX6_shapes_37 : decode cX6_shapes 37 = .ok (.iload_n 1, 1) := by decide +kernel
theorem dX6_shapes_38 : decode cX6_shapes 38 = .ok (.iload_n 2, 1) := by decide +kernel
theorem dX6_shapes_39 : decode cX6_shapes 39 = .ok (.iload_n 3, 1) := by decide +kernel
theorem dX6_shapes_40 : decode cX6_shapes 40 = .ok (.iconst 1, 1) := by decide +kernel
theorem dX6_shapes_41 : decode cX6_shapes 41 = .ok (.isub, 1) := by decide +kernel
theorem dX6_shapes_42 : decode cX6_shapes 42 = .ok (.invokevirtual 68, 3) := by decide +kernel
theorem dX6_shapes_45 : decode cX6_shapes 45 = .ok (.aload_n 0, 1) := by decide +kernel
theorem dX6_shapes_46 : decode cX6_shapes 46 = .ok (.iload_n 1, 1) := by decide +kernel
theorem dX6_shapes_47 : decode cX6_shapes 47 = .ok (.iload_n 2, 1) := by decide +kernel
theorem dX6_shapes_48 : decode cX6_shapes 48 = .ok (.iload_n 3, 1) := by decide +kernel
theorem dX6_shapes_49 : decode cX6_shapes 49 = .ok (.iconst 1, 1) := by decide +kernel
theorem dX6_shapes_50 : decode cX6_shapes 50 = .ok (.iadd, 1) := by decide +kernel
theorem dX6_shapes_51 : decode cX6_shapes 51 = .ok (.invokevirtual 68, 3) := by decide +kernel
theorem dX6_shapes_54 : decode cX6_shapes 54 = .ok (.aload_n 0, 1) := by decide +kernel
theorem dX6_shapes_55 : decode cX6_shapes 55 = .ok (.iload_n 1, 1) := by decide +kernel
theorem dX6_shapes_56 : decode cX6_shapes 56 = .ok (.iload_n 2, 1) := by decide +kernel
theorem dX6_shapes_57 : decode cX6_shapes 57 = .ok (.iconst 1, 1) := by decide +kernel
theorem dX6_shapes_58 : decode cX6_shapes 58 = .ok (.isub, 1) := by decide +kernel
theorem dX6_shapes_59 : decode cX6_shapes 59 = .ok (.iload_n 3, 1) := by decide +kernel
theorem dX6_shapes_60 : decode cX6_shapes 60 = .ok (.invokevirtual 68, 3) := by decide +kernel
theorem dX6_shapes_63 : decode cX6_shapes 63 = .ok (.aload_n 0, 1) := by decide +kernel
theorem dX6_shapes_64 : decode cX6_shapes 64 = .ok (.iload_n 1, 1) := by decide +kernel
theorem dX6_shapes_65 : decode cX6_shapes 65 = .ok (.iload_n 2, 1) := by decide +kernel
theorem dX6_shapes_66 : decode cX6_shapes 66 = .ok (.iconst 1, 1) := by decide +kernel
theorem dX6_shapes_67 : decode cX6_shapes 67 = .ok (.iadd, 1) := by decide +kernel
theorem dX6_shapes_68 : decode cX6_shapes 68 = .ok (.iload_n 3, 1) := by decide +kernel
theorem dX6_shapes_69 : decode cX6_shapes 69 = .ok (.invokevirtual 68, 3) := by decide +kernel
theorem dX6_shapes_72 : decode cX6_shapes 72 = .ok (.aload_n 0, 1) := by decide +kernel
theorem dX6_shapes_73 : decode cX6_shapes 73 = .ok (.iload_n 1, 1) := by decide +kernel
theorem dX6_shapes_74 : decode cX6_shapes 74 = .ok (.iload_n 2, 1) := by decide +kernel
theorem dX6_shapes_75 : decode cX6_shapes 75 = .ok (.iconst 1, 1) := by decide +kernel
theorem dX6_shapes_76 : decode cX6_shapes 76 = .ok (.isub, 1) := by decide +kernel
theorem dX6_shapes_77 : decode cX6_shapes 77 = .ok (.iload_n 3, 1) := by decide +kernel
theorem dX6_shapes_78 : decode cX6_shapes 78 = .ok (.iconst 1, 1) := by decide +kernel
theorem dX6_shapes_79 : decode cX6_shapes 79 = .ok (.iadd, 1) := by decide +kernel
theorem dX6_shapes_80 : decode cX6_shapes 80 = .ok (.invokevirtual 68, 3) := by decide +kernel
theorem dX6_shapes_83 : decode cX6_shapes 83 = .ok (.aload_n 0, 1) := by decide +kernel
theorem dX6_shapes_84 : decode cX6_shapes 84 = .ok (.iload_n 1, 1) := by decide +kernel
theorem dX6_shapes_85 : decode cX6_shapes 85 = .ok (.iload_n 2, 1) := by decide +kernel
theorem dX6_shapes_86 : decode cX6_shapes 86 = .ok (.iconst 1, 1) := by decide +kernel
theorem dX6_shapes_87 : decode cX6_shapes 87 = .ok (.iadd, 1) := by decide +kernel
theorem dX6_shapes_88 : decode cX6_shapes 88 = .ok (.iload_n 3, 1) := by decide +kernel
theorem dX6_shapes_89 : decode cX6_shapes 89 = .ok (.iconst 1, 1) := by decide +kernel
theorem dX6_shapes_90 : decode cX6_shapes 90 = .ok (.isub, 1) := by decide +kernel
theorem dX6_shapes_91 : decode cX6_shapes 91 = .ok (.invokevirtual 68, 3) := by decide +kernel
theorem dX6_shapes_94 : decode cX6_shapes 94 = .ok (.iinc 1 1, 3) := by decide +kernel
theorem dX6_shapes_97 : decode cX6_shapes 97 = .ok (.goto (-95), 3) := by decide +kernel
theorem dX6_shapes_100 : decode cX6_shapes 100 = .ok (.return_, 1) := by decide +kernel
theorem dX6_cells_0 : decode cX6_cells 0 = .ok (.lconst 1, 1) := by decide +kernel
theorem dX6_cells_1 : decode cX6_cells 1 = .ok (.aload_n 0, 1) := by decide +kernel
theorem dX6_cells_2 : decode cX6_cells 2 = .ok (.getfield 7, 3) := by decide +kernel
theorem dX6_cells_5 : decode cX6_cells 5 = .ok (.aload_n 0, 1) := by decide +kernel
theorem dX6_cells_6 : decode cX6_cells 6 = .ok (.getfield 7, 3) := by decide +kernel
theorem dX6_cells_9 : decode cX6_cells 9 = .ok (.imul, 1) := by decide +kernel
theorem dX6_cells_10 : decode cX6_cells 10 = .ok (.lshl, 1) := by decide +kernel
theorem dX6_cells_11 : decode cX6_cells 11 = .ok (.lconst 1, 1) := by decide +kernel
theorem dX6_cells_12 : decode cX6_cells 12 = .ok (.lsub, 1) := by decide +kernel
theorem dX6_cells_13 : decode cX6_cells 13 = .ok (.lreturn, 1) := by decide +kernel
theorem dX6_free_0 : decode cX6_free 0 = .ok (.aload_n 0, 1) := by decide +kernel
theorem dX6_free_1 : decode cX6_free 1 = .ok (.invokevirtual 72, 3) := by decide +kernel
theorem dX6_free_4 : decode cX6_free 4 = .ok (.aload_n 0, 1) := by decide +kernel
theorem dX6_free_5 : decode cX6_free 5 = .ok (.getfield 76, 3) := by decide +kernel
theorem dX6_free_8 : decode cX6_free 8 = .ok (.ldc2_w 80, 3) := by decide +kernel
theorem dX6_free_11 : decode cX6_free 11 = .ok (.lxor, 1) := by decide +kernel
theorem dX6_free_12 : decode cX6_free 12 = .ok (.land, 1) := by decide +kernel
theorem dX6_free_13 : decode cX6_free 13 = .ok (.aload_n 0, 1) := by decide +kernel
theorem dX6_free_14 : decode cX6_free 14 = .ok (.getfield 82, 3) := by decide +kernel
theorem dX6_free_17 : decode cX6_free 17 = .ok (.ldc2_w 80, 3) := by decide +kernel
theorem dX6_free_20 : decode cX6_free 20 = .ok (.lxor, 1) := by decide +kernel
theorem dX6_free_21 : decode cX6_free 21 = .ok (.land, 1) := by decide +kernel
theorem dX6_free_22 : decode cX6_free 22 = .ok (.lreturn, 1) := by decide +kernel
theorem dX6_own_0 : decode cX6_own 0 = .ok (.iload_n 1, 1) := by decide +kernel
theorem dX6_own_1 : decode cX6_own 1 = .ok (.ifCond .ne 10, 3) := by decide +kernel
theorem dX6_own_4 : decode cX6_own 4 = .ok (.aload_n 0, 1) := by decide +kernel
theorem dX6_own_5 : decode cX6_own 5 = .ok (.getfield 76, 3) := by decide +kernel
theorem dX6_own_8 : decode cX6_own 8 = .ok (.goto 7, 3) := by decide +kernel
theorem dX6_own_11 : decode cX6_own 11 = .ok (.aload_n 0, 1) := by decide +kernel
theorem dX6_own_12 : decode cX6_own 12 = .ok (.getfield 82, 3) := by decide +kernel
theorem dX6_own_15 : decode cX6_own 15 = .ok (.lreturn, 1) := by decide +kernel
theorem dX6_isCell_0 : decode cX6_isCell 0 = .ok (.iload_n 1, 1) := by decide +kernel
theorem dX6_isCell_1 : decode cX6_isCell 1 = .ok (.iconst 0, 1) := by decide +kernel
theorem dX6_isCell_2 : decode cX6_isCell 2 = .ok (.aload_n 0, 1) := by decide +kernel
theorem dX6_isCell_3 : decode cX6_isCell 3 = .ok (.getfield 7, 3) := by decide +kernel
theorem dX6_isCell_6 : decode cX6_isCell 6 = .ok (.aload_n 0, 1) := by decide +kernel
theorem dX6_isCell_7 : decode cX6_isCell 7 = .ok (.getfield 7, 3) := by decide +kernel
theorem dX6_isCell_10 : decode cX6_isCell 10 = .ok (.imul, 1) := by decide +kernel
theorem dX6_isCell_11 : decode cX6_isCell 11 = .ok (.iconst 1, 1) := by decide +kernel
theorem dX6_isCell_12 : decode cX6_isCell 12 = .ok (.isub, 1) := by decide +kernel
theorem dX6_isCell_13 : decode cX6_isCell 13 = .ok (.invokestatic 64, 3) := by decide +kernel
theorem dX6_isCell_16 : decode cX6_isCell 16 = .ok (.ireturn, 1) := by decide +kernel
theorem dX6_isPlayer_0 : decode cX6_isPlayer 0 = .ok (.iload_n 0, 1) := by decide +kernel
theorem dX6_isPlayer_1 : decode cX6_isPlayer 1 = .ok (.iconst 0, 1) := by decide +kernel
theorem dX6_isPlayer_2 : decode cX6_isPlayer 2 = .ok (.iconst 1, 1) := by decide +kernel
theorem dX6_isPlayer_3 : decode cX6_isPlayer 3 = .ok (.invokestatic 64, 3) := by decide +kernel
theorem dX6_isPlayer_6 : decode cX6_isPlayer 6 = .ok (.ireturn, 1) := by decide +kernel
theorem dX6_edge_0 : decode cX6_edge 0 = .ok (.lconst 0, 1) := by decide +kernel
theorem dX6_edge_1 : decode cX6_edge 1 = .ok (.lstore_n 2, 1) := by decide +kernel
theorem dX6_edge_2 : decode cX6_edge 2 = .ok (.iconst 0, 1) := by decide +kernel
theorem dX6_edge_3 : decode cX6_edge 3 = .ok (.istore 4, 2) := by decide +kernel
theorem dX6_edge_5 : decode cX6_edge 5 = .ok (.iload 4, 2) := by decide +kernel
theorem dX6_edge_7 : decode cX6_edge 7 = .ok (.aload_n 0, 1) := by decide +kernel
theorem dX6_edge_8 : decode cX6_edge 8 = .ok (.getfield 7, 3) := by decide +kernel
theorem dX6_edge_11 : decode cX6_edge 11 = .ok (.if_icmp .ge 81, 3) := by decide +kernel
theorem dX6_edge_14 : decode cX6_edge 14 = .ok (.iload_n 1, 1) := by decide +kernel
theorem dX6_edge_15 : decode cX6_edge 15 = .ok (.ifCond .ne 8, 3) := by decide +kernel
theorem dX6_edge_18 : decode cX6_edge 18 = .ok (.iload 4, 2) := by decide +kernel
theorem dX6_edge_20 : decode cX6_edge 20 = .ok (.goto 57, 3) := by decide +kernel
theorem dX6_edge_23 : decode cX6_edge 23 = .ok (.iload_n 1, 1) := by decide +kernel
theorem dX6_edge_24 : decode cX6_edge 24 = .ok (.iconst 1, 1) := by decide +kernel
theorem dX6_edge_25 : decode cX6_edge 25 = .ok (.if_icmp .ne 23, 3) := by decide +kernel
theorem dX6_edge_28 : decode cX6_edge 28 = .ok (.aload_n 0, 1) := by decide +kernel
theorem dX6_edge_29 : decode cX6_edge 29 = .ok (.getfield 7, 3) := by decide +kernel
theorem dX6_edge_32 : decode cX6_edge 32 = .ok (.aload_n 0, 1) := by decide +kernel
theorem dX6_edge_33 : decode cX6_edge 33 = .ok (.getfield 7, 3) := by decide +kernel
theorem dX6_edge_36 : decode cX6_edge 36 = .ok (.imul, 1) := by decide +kernel
theorem dX6_edge_37 : decode cX6_edge 37 = .ok (.aload_n 0, 1) := by decide +kernel
theorem dX6_edge_38 : decode cX6_edge 38 = .ok (.getfield 7, 3) := by decide +kernel
theorem dX6_edge_41 : decode cX6_edge 41 = .ok (.isub, 1) := by decide +kernel
theorem dX6_edge_42 : decode cX6_edge 42 = .ok (.iload 4, 2) := by decide +kernel
theorem dX6_edge_44 : decode cX6_edge 44 = .ok (.iadd, 1) := by decide +kernel
theorem dX6_edge_45 : decode cX6_edge 45 = .ok (.goto 32, 3) := by decide +kernel
theorem dX6_edge_48 : decode cX6_edge 48 = .ok (.iload_n 1, 1) := by decide +kernel
theorem dX6_edge_49 : decode cX6_edge 49 = .ok (.iconst 2, 1) := by decide +kernel
theorem dX6_edge_50 : decode cX6_edge 50 = .ok (.if_icmp .ne 13, 3) := by decide +kernel
theorem dX6_edge_53 : decode cX6_edge 53 = .ok (.aload_n 0, 1) := by decide +kernel
theorem dX6_edge_54 : decode cX6_edge 54 = .ok (.getfield 7, 3) := by decide +kernel
theorem dX6_edge_57 : decode cX6_edge 57 = .ok (.iload 4, 2) := by decide +kernel
theorem dX6_edge_59 : decode cX6_edge 59 = .ok (.imul, 1) := by decide +kernel
theorem dX6_edge_60 : decode cX6_edge 60 = .ok (.goto 17, 3) := by decide +kernel
theorem dX6_edge_63 : decode cX6_edge 63 = .ok (.aload_n 0, 1) := by decide +kernel
theorem dX6_edge_64 : decode cX6_edge 64 = .ok (.getfield 7, 3) := by decide +kernel
theorem dX6_edge_67 : decode cX6_edge 67 = .ok (.iload 4, 2) := by decide +kernel
theorem dX6_edge_69 : decode cX6_edge 69 = .ok (.imul, 1) := by decide +kernel
theorem dX6_edge_70 : decode cX6_edge 70 = .ok (.aload_n 0, 1) := by decide +kernel
theorem dX6_edge_71 : decode cX6_edge 71 = .ok (.getfield 7, 3) := by decide +kernel
theorem dX6_edge_74 : decode cX6_edge 74 = .ok (.iadd, 1) := by decide +kernel
theorem dX6_edge_75 : decode cX6_edge 75 = .ok (.iconst 1, 1) := by decide +kernel
theorem dX6_edge_76 : decode cX6_edge 76 = .ok (.isub, 1) := by decide +kernel
theorem dX6_edge_77 : decode cX6_edge 77 = .ok (.istore 5, 2) := by decide +kernel
theorem dX6_edge_79 : decode cX6_edge 79 = .ok (.lload_n 2, 1) := by decide +kernel
theorem dX6_edge_80 : decode cX6_edge 80 = .ok (.lconst 1, 1) := by decide +kernel
theorem dX6_edge_81 : decode cX6_edge 81 = .ok (.iload 5, 2) := by decide +kernel
theorem dX6_edge_83 : decode cX6_edge 83 = .ok (.lshl, 1) := by decide +kernel
theorem dX6_edge_84 : decode cX6_edge 84 = .ok (.lor, 1) := by decide +kernel
theorem dX6_edge_85 : decode cX6_edge 85 = .ok (.lstore_n 2, 1) := by decide +kernel
theorem dX6_edge_86 : decode cX6_edge 86 = .ok (.iinc 4 1, 3) := by decide +kernel
theorem dX6_edge_89 : decode cX6_edge 89 = .ok (.goto (-84), 3) := by decide +kernel
theorem dX6_edge_92 : decode cX6_edge 92 = .ok (.lload_n 2, 1) := by decide +kernel
theorem dX6_edge_93 : decode cX6_edge 93 = .ok (.lreturn, 1) := by decide +kernel
theorem dX6_around_0 : decode cX6_around 0 = .ok (.lconst 0, 1) := by decide +kernel
theorem dX6_around_1 : decode cX6_around 1 = .ok (.lstore_n 3, 1) := by decide +kernel
theorem dX6_around_2 : decode cX6_around 2 = .ok (.iconst 0, 1) := by decide +kernel
theorem dX6_around_3 : decode cX6_around 3 = .ok (.istore 5, 2) := by decide +kernel
theorem dX6_around_5 : decode cX6_around 5 = .ok (.iload 5, 2) := by decide +kernel
theorem dX6_around_7 : decode cX6_around 7 = .ok (.aload_n 0, 1) := by decide +kernel
theorem dX6_around_8 : decode cX6_around 8 = .ok (.getfield 7, 3) := by decide +kernel
theorem dX6_around_11 : decode cX6_around 11 = .ok (.aload_n 0, 1) := by decide +kernel
theorem dX6_around_12 : decode cX6_around 12 = .ok (.getfield 7, 3) := by decide +kernel
theorem dX6_around_15 : decode cX6_around 15 = .ok (.imul, 1) := by decide +kernel
theorem dX6_around_16 : decode cX6_around 16 = .ok (.if_icmp .ge 32, 3) := by decide +kernel
theorem dX6_around_19 : decode cX6_around 19 = .ok (.lload_n 3, 1) := by decide +kernel
theorem dX6_around_20 : decode cX6_around 20 = .ok (.lload_n 1, 1) := by decide +kernel
theorem dX6_around_21 : decode cX6_around 21 = .ok (.iload 5, 2) := by decide +kernel
theorem dX6_around_23 : decode cX6_around 23 = .ok (.invokestatic 85, 3) := by decide +kernel
theorem dX6_around_26 : decode cX6_around 26 = .ok (.ifCond .eq 13, 3) := by decide +kernel
theorem dX6_around_29 : decode cX6_around 29 = .ok (.aload_n 0, 1) := by decide +kernel
theorem dX6_around_30 : decode cX6_around 30 = .ok (.getfield 17, 3) := by decide +kernel
theorem dX6_around_33 : decode cX6_around 33 = .ok (.iload 5, 2) := by decide +kernel
theorem dX6_around_35 : decode cX6_around 35 = .ok (.laload, 1) := by decide +kernel
theorem dX6_around_36 : decode cX6_around 36 = .ok (.goto 4, 3) := by decide +kernel
theorem dX6_around_39 : decode cX6_around 39 = .ok (.lconst 0, 1) := by decide +kernel
theorem dX6_around_40 : decode cX6_around 40 = .ok (.lor, 1) := by decide +kernel
theorem dX6_around_41 : decode cX6_around 41 = .ok (.lstore_n 3, 1) := by decide +kernel
theorem dX6_around_42 : decode cX6_around 42 = .ok (.iinc 5 1, 3) := by decide +kernel
theorem dX6_around_45 : decode cX6_around 45 = .ok (.goto (-40), 3) := by decide +kernel
theorem dX6_around_48 : decode cX6_around 48 = .ok (.lload_n 3, 1) := by decide +kernel
theorem dX6_around_49 : decode cX6_around 49 = .ok (.lreturn, 1) := by decide +kernel
theorem dX6_reach_0 : decode cX6_reach 0 = .ok (.lload_n 1, 1) := by decide +kernel
theorem dX6_reach_1 : decode cX6_reach 1 = .ok (.lload_n 3, 1) := by decide +kernel
theorem dX6_reach_2 : decode cX6_reach 2 = .ok (.land, 1) := by decide +kernel
theorem dX6_reach_3 : decode cX6_reach 3 = .ok (.lstore 5, 2) := by decide +kernel
theorem dX6_reach_5 : decode cX6_reach 5 = .ok (.lconst 0, 1) := by decide +kernel
theorem dX6_reach_6 : decode cX6_reach 6 = .ok (.lstore 7, 2) := by decide +kernel
theorem dX6_reach_8 : decode cX6_reach 8 = .ok (.lload 7, 2) := by decide +kernel
theorem dX6_reach_10 : decode cX6_reach 10 = .ok (.lload 5, 2) := by decide +kernel
theorem dX6_reach_12 : decode cX6_reach 12 = .ok (.lcmp, 1) := by decide +kernel
theorem dX6_reach_13 : decode cX6_reach 13 = .ok (.ifCond .eq 23, 3) := by decide +kernel
theorem dX6_reach_16 : decode cX6_reach 16 = .ok (.lload 5, 2) := by decide +kernel
theorem dX6_reach_18 : decode cX6_reach 18 = .ok (.lstore 7, 2) := by decide +kernel
theorem dX6_reach_20 : decode cX6_reach 20 = .ok (.lload 5, 2) := by decide +kernel
theorem dX6_reach_22 : decode cX6_reach 22 = .ok (.aload_n 0, 1) := by decide +kernel
theorem dX6_reach_23 : decode cX6_reach 23 = .ok (.lload 5, 2) := by decide +kernel
theorem dX6_reach_25 : decode cX6_reach 25 = .ok (.invokevirtual 89, 3) := by decide +kernel
theorem dX6_reach_28 : decode cX6_reach 28 = .ok (.lload_n 3, 1) := by decide +kernel
theorem dX6_reach_29 : decode cX6_reach 29 = .ok (.land, 1) := by decide +kernel
theorem dX6_reach_30 : decode cX6_reach 30 = .ok (.lor, 1) := by decide +kernel
theorem dX6_reach_31 : decode cX6_reach 31 = .ok (.lstore 5, 2) := by decide +kernel
theorem dX6_reach_33 : decode cX6_reach 33 = .ok (.goto (-25), 3) := by decide +kernel
theorem dX6_reach_36 : decode cX6_reach 36 = .ok (.lload 5, 2) := by decide +kernel
theorem dX6_reach_38 : decode cX6_reach 38 = .ok (.lreturn, 1) := by decide +kernel
theorem dX6_wins_0 : decode cX6_wins 0 = .ok (.aload_n 0, 1) := by decide +kernel
theorem dX6_wins_1 : decode cX6_wins 1 = .ok (.aload_n 0, 1) := by decide +kernel
theorem dX6_wins_2 : decode cX6_wins 2 = .ok (.iconst 2, 1) := by decide +kernel
theorem dX6_wins_3 : decode cX6_wins 3 = .ok (.iload_n 1, 1) := by decide +kernel
theorem dX6_wins_4 : decode cX6_wins 4 = .ok (.imul, 1) := by decide +kernel
theorem dX6_wins_5 : decode cX6_wins 5 = .ok (.invokevirtual 93, 3) := by decide +kernel
theorem dX6_wins_8 : decode cX6_wins 8 = .ok (.lload_n 2, 1) := by decide +kernel
theorem dX6_wins_9 : decode cX6_wins 9 = .ok (.invokevirtual 97, 3) := by decide +kernel
theorem dX6_wins_12 : decode cX6_wins 12 = .ok (.aload_n 0, 1) := by decide +kernel
theorem dX6_wins_13 : decode cX6_wins 13 = .ok (.iconst 2, 1) := by decide +kernel
theorem dX6_wins_14 : decode cX6_wins 14 = .ok (.iload_n 1, 1) := by decide +kernel
theorem dX6_wins_15 : decode cX6_wins 15 = .ok (.imul, 1) := by decide +kernel
theorem dX6_wins_16 : decode cX6_wins 16 = .ok (.iconst 1, 1) := by decide +kernel
theorem dX6_wins_17 : decode cX6_wins 17 = .ok (.iadd, 1) := by decide +kernel
theorem dX6_wins_18 : decode cX6_wins 18 = .ok (.invokevirtual 93, 3) := by decide +kernel
theorem dX6_wins_21 : decode cX6_wins 21 = .ok (.land, 1) := by decide +kernel
theorem dX6_wins_22 : decode cX6_wins 22 = .ok (.lconst 0, 1) := by decide +kernel
theorem dX6_wins_23 : decode cX6_wins 23 = .ok (.lcmp, 1) := by decide +kernel
theorem dX6_wins_24 : decode cX6_wins 24 = .ok (.ifCond .eq 7, 3) := by decide +kernel
theorem dX6_wins_27 : decode cX6_wins 27 = .ok (.iconst 1, 1) := by decide +kernel
theorem dX6_wins_28 : decode cX6_wins 28 = .ok (.goto 4, 3) := by decide +kernel
theorem dX6_wins_31 : decode cX6_wins 31 = .ok (.iconst 0, 1) := by decide +kernel
theorem dX6_wins_32 : decode cX6_wins 32 = .ok (.ireturn, 1) := by decide +kernel
theorem dX6_winnerNow_0 : decode cX6_winnerNow 0 = .ok (.aload_n 0, 1) := by decide +kernel
theorem dX6_winnerNow_1 : decode cX6_winnerNow 1 = .ok (.iconst 0, 1) := by decide +kernel
theorem dX6_winnerNow_2 : decode cX6_winnerNow 2 = .ok (.aload_n 0, 1) := by decide +kernel
theorem dX6_winnerNow_3 : decode cX6_winnerNow 3 = .ok (.getfield 76, 3) := by decide +kernel
theorem dX6_winnerNow_6 : decode cX6_winnerNow 6 = .ok (.invokevirtual 101, 3) := by decide +kernel
theorem dX6_winnerNow_9 : decode cX6_winnerNow 9 = .ok (.ifCond .eq 7, 3) := by decide +kernel
theorem dX6_winnerNow_12 : decode cX6_winnerNow 12 = .ok (.iconst 0, 1) := by decide +kernel
theorem dX6_winnerNow_13 : decode cX6_winnerNow 13 = .ok (.goto 21, 3) := by decide +kernel
theorem dX6_winnerNow_16 : decode cX6_winnerNow 16 = .ok (.aload_n 0, 1) := by decide +kernel
theorem dX6_winnerNow_17 : decode cX6_winnerNow 17 = .ok (.iconst 1, 1) := by decide +kernel
theorem dX6_winnerNow_18 : decode cX6_winnerNow 18 = .ok (.aload_n 0, 1) := by decide +kernel
theorem dX6_winnerNow_19 : decode cX6_winnerNow 19 = .ok (.getfield 82, 3) := by decide +kernel
theorem dX6_winnerNow_22 : decode cX6_winnerNow 22 = .ok (.invokevirtual 101, 3) := by decide +kernel
theorem dX6_winnerNow_25 : decode cX6_winnerNow 25 = .ok (.ifCond .eq 7, 3) := by decide +kernel
theorem dX6_winnerNow_28 : decode cX6_winnerNow 28 = .ok (.iconst 1, 1) := by decide +kernel
theorem dX6_winnerNow_29 : decode cX6_winnerNow 29 = .ok (.goto 5, 3) := by decide +kernel
theorem dX6_winnerNow_32 : decode cX6_winnerNow 32 = .ok (.bipush (-15), 2) := by decide +kernel
theorem dX6_winnerNow_34 : decode cX6_winnerNow 34 = .ok (.ireturn, 1) := by decide +kernel
theorem dX6_lays_0 : decode cX6_lays 0 = .ok (.iload_n 1, 1) := by decide +kernel
theorem dX6_lays_1 : decode cX6_lays 1 = .ok (.bipush (-16), 2) := by decide +kernel
theorem dX6_lays_3 : decode cX6_lays 3 = .ok (.if_icmp .ne 42, 3) := by decide +kernel
theorem dX6_lays_6 : decode cX6_lays 6 = .ok (.aload_n 0, 1) := by decide +kernel
theorem dX6_lays_7 : decode cX6_lays 7 = .ok (.getfield 13, 3) := by decide +kernel
theorem dX6_lays_10 : decode cX6_lays 10 = .ok (.iconst 0, 1) := by decide +kernel
theorem dX6_lays_11 : decode cX6_lays 11 = .ok (.iaload, 1) := by decide +kernel
theorem dX6_lays_12 : decode cX6_lays 12 = .ok (.istore_n 3, 1) := by decide +kernel
theorem dX6_lays_13 : decode cX6_lays 13 = .ok (.aload_n 0, 1) := by decide +kernel
theorem dX6_lays_14 : decode cX6_lays 14 = .ok (.lconst 0, 1) := by decide +kernel
theorem dX6_lays_15 : decode cX6_lays 15 = .ok (.putfield 76, 3) := by decide +kernel
theorem dX6_lays_18 : decode cX6_lays 18 = .ok (.aload_n 0, 1) := by decide +kernel
theorem dX6_lays_19 : decode cX6_lays 19 = .ok (.lconst 1, 1) := by decide +kernel
theorem dX6_lays_20 : decode cX6_lays 20 = .ok (.iload_n 3, 1) := by decide +kernel
theorem dX6_lays_21 : decode cX6_lays 21 = .ok (.aload_n 0, 1) := by decide +kernel
theorem dX6_lays_22 : decode cX6_lays 22 = .ok (.getfield 7, 3) := by decide +kernel
theorem dX6_lays_25 : decode cX6_lays 25 = .ok (.irem, 1) := by decide +kernel
theorem dX6_lays_26 : decode cX6_lays 26 = .ok (.aload_n 0, 1) := by decide +kernel
theorem dX6_lays_27 : decode cX6_lays 27 = .ok (.getfield 7, 3) := by decide +kernel
theorem dX6_lays_30 : decode cX6_lays 30 = .ok (.imul, 1) := by decide +kernel
theorem dX6_lays_31 : decode cX6_lays 31 = .ok (.iload_n 3, 1) := by decide +kernel
theorem dX6_lays_32 : decode cX6_lays 32 = .ok (.aload_n 0, 1) := by decide +kernel
theorem dX6_lays_33 : decode cX6_lays 33 = .ok (.getfield 7, 3) := by decide +kernel
theorem dX6_lays_36 : decode cX6_lays 36 = .ok (.idiv, 1) := by decide +kernel
theorem dX6_lays_37 : decode cX6_lays 37 = .ok (.iadd, 1) := by decide +kernel
theorem dX6_lays_38 : decode cX6_lays 38 = .ok (.lshl, 1) := by decide +kernel
theorem dX6_lays_39 : decode cX6_lays 39 = .ok (.putfield 82, 3) := by decide +kernel
theorem dX6_lays_42 : decode cX6_lays 42 = .ok (.goto 34, 3) := by decide +kernel
theorem dX6_lays_45 : decode cX6_lays 45 = .ok (.iload_n 2, 1) := by decide +kernel
theorem dX6_lays_46 : decode cX6_lays 46 = .ok (.ifCond .ne 18, 3) := by decide +kernel
theorem dX6_lays_49 : decode cX6_lays 49 = .ok (.aload_n 0, 1) := by decide +kernel
theorem dX6_lays_50 : decode cX6_lays 50 = .ok (.dup, 1) := by decide +kernel
theorem dX6_lays_51 : decode cX6_lays 51 = .ok (.getfield 76, 3) := by decide +kernel
theorem dX6_lays_54 : decode cX6_lays 54 = .ok (.lconst 1, 1) := by decide +kernel
theorem dX6_lays_55 : decode cX6_lays 55 = .ok (.iload_n 1, 1) := by decide +kernel
theorem dX6_lays_56 : decode cX6_lays 56 = .ok (.lshl, 1) := by decide +kernel
theorem dX6_lays_57 : decode cX6_lays 57 = .ok (.lor, 1) := by decide +kernel
theorem dX6_lays_58 : decode cX6_lays 58 = .ok (.putfield 76, 3) := by decide +kernel
theorem dX6_lays_61 : decode cX6_lays 61 = .ok (.goto 15, 3) := by decide +kernel
theorem dX6_lays_64 : decode cX6_lays 64 = .ok (.aload_n 0, 1) := by decide +kernel
theorem dX6_lays_65 : decode cX6_lays 65 = .ok (.dup, 1) := by decide +kernel
theorem dX6_lays_66 : decode cX6_lays 66 = .ok (.getfield 82, 3) := by decide +kernel
theorem dX6_lays_69 : decode cX6_lays 69 = .ok (.lconst 1, 1) := by decide +kernel
theorem dX6_lays_70 : decode cX6_lays 70 = .ok (.iload_n 1, 1) := by decide +kernel
theorem dX6_lays_71 : decode cX6_lays 71 = .ok (.lshl, 1) := by decide +kernel
theorem dX6_lays_72 : decode cX6_lays 72 = .ok (.lor, 1) := by decide +kernel
theorem dX6_lays_73 : decode cX6_lays 73 = .ok (.putfield 82, 3) := by decide +kernel
theorem dX6_lays_76 : decode cX6_lays 76 = .ok (.return_, 1) := by decide +kernel
theorem dX6_goes_0 : decode cX6_goes 0 = .ok (.aload_n 0, 1) := by decide +kernel
theorem dX6_goes_1 : decode cX6_goes 1 = .ok (.lconst 0, 1) := by decide +kernel
theorem dX6_goes_2 : decode cX6_goes 2 = .ok (.putfield 76, 3) := by decide +kernel
theorem dX6_goes_5 : decode cX6_goes 5 = .ok (.aload_n 0, 1) := by decide +kernel
theorem dX6_goes_6 : decode cX6_goes 6 = .ok (.lconst 0, 1) := by decide +kernel
theorem dX6_goes_7 : decode cX6_goes 7 = .ok (.putfield 82, 3) := by decide +kernel
theorem dX6_goes_10 : decode cX6_goes 10 = .ok (.iconst 0, 1) := by decide +kernel
theorem dX6_goes_11 : decode cX6_goes 11 = .ok (.istore_n 2, 1) := by decide +kernel
theorem dX6_goes_12 : decode cX6_goes 12 = .ok (.iload_n 2, 1) := by decide +kernel
theorem dX6_goes_13 : decode cX6_goes 13 = .ok (.iload_n 1, 1) := by decide +kernel
theorem dX6_goes_14 : decode cX6_goes 14 = .ok (.if_icmp .ge 22, 3) := by decide +kernel
theorem dX6_goes_17 : decode cX6_goes 17 = .ok (.aload_n 0, 1) := by decide +kernel
theorem dX6_goes_18 : decode cX6_goes 18 = .ok (.aload_n 0, 1) := by decide +kernel
theorem dX6_goes_19 : decode cX6_goes 19 = .ok (.getfield 13, 3) := by decide +kernel
theorem dX6_goes_22 : decode cX6_goes 22 = .ok (.iload_n 2, 1) := by decide +kernel
theorem dX6_goes_23 : decode cX6_goes 23 = .ok (.iaload, 1) := by decide +kernel
theorem dX6_goes_24 : decode cX6_goes 24 = .ok (.iload_n 2, 1) := by decide +kernel
theorem dX6_goes_25 : decode cX6_goes 25 = .ok (.iconst 2, 1) := by decide +kernel
theorem dX6_goes_26 : decode cX6_goes 26 = .ok (.irem, 1) := by decide +kernel
theorem dX6_goes_27 : decode cX6_goes 27 = .ok (.invokevirtual 105, 3) := by decide +kernel
theorem dX6_goes_30 : decode cX6_goes 30 = .ok (.iinc 2 1, 3) := by decide +kernel
theorem dX6_goes_33 : decode cX6_goes 33 = .ok (.goto (-21), 3) := by decide +kernel
theorem dX6_goes_36 : decode cX6_goes 36 = .ok (.return_, 1) := by decide +kernel
theorem dX6_adds_0 : decode cX6_adds 0 = .ok (.aload_n 0, 1) := by decide +kernel
theorem dX6_adds_1 : decode cX6_adds 1 = .ok (.getfield 13, 3) := by decide +kernel
theorem dX6_adds_4 : decode cX6_adds 4 = .ok (.aload_n 0, 1) := by decide +kernel
theorem dX6_adds_5 : decode cX6_adds 5 = .ok (.getfield 109, 3) := by decide +kernel
theorem dX6_adds_8 : decode cX6_adds 8 = .ok (.iload_n 1, 1) := by decide +kernel
theorem dX6_adds_9 : decode cX6_adds 9 = .ok (.iastore, 1) := by decide +kernel
theorem dX6_adds_10 : decode cX6_adds 10 = .ok (.aload_n 0, 1) := by decide +kernel
theorem dX6_adds_11 : decode cX6_adds 11 = .ok (.dup, 1) := by decide +kernel
theorem dX6_adds_12 : decode cX6_adds 12 = .ok (.getfield 109, 3) := by decide +kernel
theorem dX6_adds_15 : decode cX6_adds 15 = .ok (.iconst 1, 1) := by decide +kernel
theorem dX6_adds_16 : decode cX6_adds 16 = .ok (.iadd, 1) := by decide +kernel
theorem dX6_adds_17 : decode cX6_adds 17 = .ok (.putfield 109, 3) := by decide +kernel
theorem dX6_adds_20 : decode cX6_adds 20 = .ok (.aload_n 0, 1) := by decide +kernel
theorem dX6_adds_21 : decode cX6_adds 21 = .ok (.aload_n 0, 1) := by decide +kernel
theorem dX6_adds_22 : decode cX6_adds 22 = .ok (.getfield 109, 3) := by decide +kernel
theorem dX6_adds_25 : decode cX6_adds 25 = .ok (.putfield 112, 3) := by decide +kernel
theorem dX6_adds_28 : decode cX6_adds 28 = .ok (.aload_n 0, 1) := by decide +kernel
theorem dX6_adds_29 : decode cX6_adds 29 = .ok (.aload_n 0, 1) := by decide +kernel
theorem dX6_adds_30 : decode cX6_adds 30 = .ok (.getfield 109, 3) := by decide +kernel
theorem dX6_adds_33 : decode cX6_adds 33 = .ok (.invokevirtual 115, 3) := by decide +kernel
theorem dX6_adds_36 : decode cX6_adds 36 = .ok (.return_, 1) := by decide +kernel
theorem dX6_begin_0 : decode cX6_begin 0 = .ok (.iload_n 1, 1) := by decide +kernel
theorem dX6_begin_1 : decode cX6_begin 1 = .ok (.iconst 2, 1) := by decide +kernel
theorem dX6_begin_2 : decode cX6_begin 2 = .ok (.bipush 7, 2) := by decide +kernel
theorem dX6_begin_4 : decode cX6_begin 4 = .ok (.invokestatic 64, 3) := by decide +kernel
theorem dX6_begin_7 : decode cX6_begin 7 = .ok (.ifCond .ne 6, 3) := by decide +kernel
theorem dX6_begin_10 : decode cX6_begin 10 = .ok (.bipush (-12), 2) := by decide +kernel
theorem dX6_begin_12 : decode cX6_begin 12 = .ok (.ireturn, 1) := by decide +kernel
theorem dX6_begin_13 : decode cX6_begin 13 = .ok (.aload_n 0, 1) := by decide +kernel
theorem dX6_begin_14 : decode cX6_begin 14 = .ok (.getfield 7, 3) := by decide +kernel
theorem dX6_begin_17 : decode cX6_begin 17 = .ok (.istore_n 2, 1) := by decide +kernel
theorem dX6_begin_18 : decode cX6_begin 18 = .ok (.aload_n 0, 1) := by decide +kernel
theorem dX6_begin_19 : decode cX6_begin 19 = .ok (.iload_n 1, 1) := by decide +kernel
theorem dX6_begin_20 : decode cX6_begin 20 = .ok (.putfield 7, 3) := by decide +kernel
theorem dX6_begin_23 : decode cX6_begin 23 = .ok (.aload_n 0, 1) := by decide +kernel
theorem dX6_begin_24 : decode cX6_begin 24 = .ok (.invokevirtual 61, 3) := by decide +kernel
theorem dX6_begin_27 : decode cX6_begin 27 = .ok (.aload_n 0, 1) := by decide +kernel
theorem dX6_begin_28 : decode cX6_begin 28 = .ok (.iconst 0, 1) := by decide +kernel
theorem dX6_begin_29 : decode cX6_begin 29 = .ok (.putfield 109, 3) := by decide +kernel
theorem dX6_begin_32 : decode cX6_begin 32 = .ok (.aload_n 0, 1) := by decide +kernel
theorem dX6_begin_33 : decode cX6_begin 33 = .ok (.iconst 0, 1) := by decide +kernel
theorem dX6_begin_34 : decode cX6_begin 34 = .ok (.putfield 112, 3) := by decide +kernel
theorem dX6_begin_37 : decode cX6_begin 37 = .ok (.aload_n 0, 1) := by decide +kernel
theorem dX6_begin_38 : decode cX6_begin 38 = .ok (.iconst 0, 1) := by decide +kernel
theorem dX6_begin_39 : decode cX6_begin 39 = .ok (.invokevirtual 115, 3) := by decide +kernel
theorem dX6_begin_42 : decode cX6_begin 42 = .ok (.aload_n 0, 1) := by decide +kernel
theorem dX6_begin_43 : decode cX6_begin 43 = .ok (.iconst 0, 1) := by decide +kernel
theorem dX6_begin_44 : decode cX6_begin 44 = .ok (.putfield 119, 3) := by decide +kernel
theorem dX6_begin_47 : decode cX6_begin 47 = .ok (.iload_n 2, 1) := by decide +kernel
theorem dX6_begin_48 : decode cX6_begin 48 = .ok (.ireturn, 1) := by decide +kernel
theorem dX6_rows_0 : decode cX6_rows 0 = .ok (.aload_n 0, 1) := by decide +kernel
theorem dX6_rows_1 : decode cX6_rows 1 = .ok (.getfield 7, 3) := by decide +kernel
theorem dX6_rows_4 : decode cX6_rows 4 = .ok (.ireturn, 1) := by decide +kernel
theorem dX6_play_0 : decode cX6_play 0 = .ok (.aload_n 0, 1) := by decide +kernel
theorem dX6_play_1 : decode cX6_play 1 = .ok (.iload_n 1, 1) := by decide +kernel
theorem dX6_play_2 : decode cX6_play 2 = .ok (.invokevirtual 122, 3) := by decide +kernel
theorem dX6_play_5 : decode cX6_play 5 = .ok (.ifCond .ne 6, 3) := by decide +kernel
theorem dX6_play_8 : decode cX6_play 8 = .ok (.bipush (-11), 2) := by decide +kernel
theorem dX6_play_10 : decode cX6_play 10 = .ok (.ireturn, 1) := by decide +kernel
theorem dX6_play_11 : decode cX6_play 11 = .ok (.aload_n 0, 1) := by decide +kernel
theorem dX6_play_12 : decode cX6_play 12 = .ok (.invokevirtual 126, 3) := by decide +kernel
theorem dX6_play_15 : decode cX6_play 15 = .ok (.iload_n 1, 1) := by decide +kernel
theorem dX6_play_16 : decode cX6_play 16 = .ok (.invokestatic 85, 3) := by decide +kernel
theorem dX6_play_19 : decode cX6_play 19 = .ok (.ifCond .eq 12, 3) := by decide +kernel
theorem dX6_play_22 : decode cX6_play 22 = .ok (.aload_n 0, 1) := by decide +kernel
theorem dX6_play_23 : decode cX6_play 23 = .ok (.invokevirtual 129, 3) := by decide +kernel
theorem dX6_play_26 : decode cX6_play 26 = .ok (.bipush (-15), 2) := by decide +kernel
theorem dX6_play_28 : decode cX6_play 28 = .ok (.if_icmp .eq 6, 3) := by decide +kernel
theorem dX6_play_31 : decode cX6_play 31 = .ok (.bipush (-13), 2) := by decide +kernel
theorem dX6_play_33 : decode cX6_play 33 = .ok (.ireturn, 1) := by decide +kernel
theorem dX6_play_34 : decode cX6_play 34 = .ok (.aload_n 0, 1) := by decide +kernel
theorem dX6_play_35 : decode cX6_play 35 = .ok (.iload_n 1, 1) := by decide +kernel
theorem dX6_play_36 : decode cX6_play 36 = .ok (.invokevirtual 133, 3) := by decide +kernel
theorem dX6_play_39 : decode cX6_play 39 = .ok (.aload_n 0, 1) := by decide +kernel
theorem dX6_play_40 : decode cX6_play 40 = .ok (.getfield 109, 3) := by decide +kernel
theorem dX6_play_43 : decode cX6_play 43 = .ok (.iconst 1, 1) := by decide +kernel
theorem dX6_play_44 : decode cX6_play 44 = .ok (.isub, 1) := by decide +kernel
theorem dX6_play_45 : decode cX6_play 45 = .ok (.ireturn, 1) := by decide +kernel
theorem dX6_swap_0 : decode cX6_swap 0 = .ok (.aload_n 0, 1) := by decide +kernel
theorem dX6_swap_1 : decode cX6_swap 1 = .ok (.getfield 109, 3) := by decide +kernel
theorem dX6_swap_4 : decode cX6_swap 4 = .ok (.iconst 1, 1) := by decide +kernel
theorem dX6_swap_5 : decode cX6_swap 5 = .ok (.if_icmp .eq 6, 3) := by decide +kernel
theorem dX6_swap_8 : decode cX6_swap 8 = .ok (.bipush (-13), 2) := by decide +kernel
theorem dX6_swap_10 : decode cX6_swap 10 = .ok (.ireturn, 1) := by decide +kernel
theorem dX6_swap_11 : decode cX6_swap 11 = .ok (.aload_n 0, 1) := by decide +kernel
theorem dX6_swap_12 : decode cX6_swap 12 = .ok (.bipush (-16), 2) := by decide +kernel
theorem dX6_swap_14 : decode cX6_swap 14 = .ok (.invokevirtual 133, 3) := by decide +kernel
theorem dX6_swap_17 : decode cX6_swap 17 = .ok (.aload_n 0, 1) := by decide +kernel
theorem dX6_swap_18 : decode cX6_swap 18 = .ok (.getfield 13, 3) := by decide +kernel
theorem dX6_swap_21 : decode cX6_swap 21 = .ok (.iconst 0, 1) := by decide +kernel
theorem dX6_swap_22 : decode cX6_swap 22 = .ok (.iaload, 1) := by decide +kernel
theorem dX6_swap_23 : decode cX6_swap 23 = .ok (.aload_n 0, 1) := by decide +kernel
theorem dX6_swap_24 : decode cX6_swap 24 = .ok (.getfield 7, 3) := by decide +kernel
theorem dX6_swap_27 : decode cX6_swap 27 = .ok (.irem, 1) := by decide +kernel
theorem dX6_swap_28 : decode cX6_swap 28 = .ok (.aload_n 0, 1) := by decide +kernel
theorem dX6_swap_29 : decode cX6_swap 29 = .ok (.getfield 7, 3) := by decide +kernel
theorem dX6_swap_32 : decode cX6_swap 32 = .ok (.imul, 1) := by decide +kernel
theorem dX6_swap_33 : decode cX6_swap 33 = .ok (.aload_n 0, 1) := by decide +kernel
theorem dX6_swap_34 : decode cX6_swap 34 = .ok (.getfield 13, 3) := by decide +kernel
theorem dX6_swap_37 : decode cX6_swap 37 = .ok (.iconst 0, 1) := by decide +kernel
theorem dX6_swap_38 : decode cX6_swap 38 = .ok (.iaload, 1) := by decide +kernel
theorem dX6_swap_39 : decode cX6_swap 39 = .ok (.aload_n 0, 1) := by decide +kernel
theorem dX6_swap_40 : decode cX6_swap 40 = .ok (.getfield 7, 3) := by decide +kernel
theorem dX6_swap_43 : decode cX6_swap 43 = .ok (.idiv, 1) := by decide +kernel
theorem dX6_swap_44 : decode cX6_swap 44 = .ok (.iadd, 1) := by decide +kernel
theorem dX6_swap_45 : decode cX6_swap 45 = .ok (.ireturn, 1) := by decide +kernel
theorem dX6_takeBack_0 : decode cX6_takeBack 0 = .ok (.aload_n 0, 1) := by decide +kernel
theorem dX6_takeBack_1 : decode cX6_takeBack 1 = .ok (.getfield 109, 3) := by decide +kernel
theorem dX6_takeBack_4 : decode cX6_takeBack 4 = .ok (.ifCond .ne 6, 3) := by decide +kernel
theorem dX6_takeBack_7 : decode cX6_takeBack 7 = .ok (.bipush (-13), 2) := by decide +kernel
theorem dX6_takeBack_9 : decode cX6_takeBack 9 = .ok (.ireturn, 1) := by decide +kernel
theorem dX6_takeBack_10 : decode cX6_takeBack 10 = .ok (.aload_n 0, 1) := by decide +kernel
theorem dX6_takeBack_11 : decode cX6_takeBack 11 = .ok (.dup, 1) := by decide +kernel
theorem dX6_takeBack_12 : decode cX6_takeBack 12 = .ok (.getfield 109, 3) := by decide +kernel
theorem dX6_takeBack_15 : decode cX6_takeBack 15 = .ok (.iconst 1, 1) := by decide +kernel
theorem dX6_takeBack_16 : decode cX6_takeBack 16 = .ok (.isub, 1) := by decide +kernel
theorem dX6_takeBack_17 : decode cX6_takeBack 17 = .ok (.putfield 109, 3) := by decide +kernel
theorem dX6_takeBack_20 : decode cX6_takeBack 20 = .ok (.aload_n 0, 1) := by decide +kernel
theorem dX6_takeBack_21 : decode cX6_takeBack 21 = .ok (.aload_n 0, 1) := by decide +kernel
theorem dX6_takeBack_22 : decode cX6_takeBack 22 = .ok (.getfield 109, 3) := by decide +kernel
theorem dX6_takeBack_25 : decode cX6_takeBack 25 = .ok (.invokevirtual 115, 3) := by decide +kernel
theorem dX6_takeBack_28 : decode cX6_takeBack 28 = .ok (.aload_n 0, 1) := by decide +kernel
theorem dX6_takeBack_29 : decode cX6_takeBack 29 = .ok (.getfield 109, 3) := by decide +kernel
theorem dX6_takeBack_32 : decode cX6_takeBack 32 = .ok (.ireturn, 1) := by decide +kernel
theorem dX6_again_0 : decode cX6_again 0 = .ok (.aload_n 0, 1) := by decide +kernel
theorem dX6_again_1 : decode cX6_again 1 = .ok (.getfield 109, 3) := by decide +kernel
theorem dX6_again_4 : decode cX6_again 4 = .ok (.aload_n 0, 1) := by decide +kernel
theorem dX6_again_5 : decode cX6_again 5 = .ok (.getfield 112, 3) := by decide +kernel
theorem dX6_again_8 : decode cX6_again 8 = .ok (.if_icmp .ne 6, 3) := by decide +kernel
theorem dX6_again_11 : decode cX6_again 11 = .ok (.bipush (-13), 2) := by decide +kernel
theorem dX6_again_13 : decode cX6_again 13 = .ok (.ireturn, 1) := by decide +kernel
theorem dX6_again_14 : decode cX6_again 14 = .ok (.aload_n 0, 1) := by decide +kernel
theorem dX6_again_15 : decode cX6_again 15 = .ok (.dup, 1) := by decide +kernel
theorem dX6_again_16 : decode cX6_again 16 = .ok (.getfield 109, 3) := by decide +kernel
theorem dX6_again_19 : decode cX6_again 19 = .ok (.iconst 1, 1) := by decide +kernel
theorem dX6_again_20 : decode cX6_again 20 = .ok (.iadd, 1) := by decide +kernel
theorem dX6_again_21 : decode cX6_again 21 = .ok (.putfield 109, 3) := by decide +kernel
theorem dX6_again_24 : decode cX6_again 24 = .ok (.aload_n 0, 1) := by decide +kernel
theorem dX6_again_25 : decode cX6_again 25 = .ok (.aload_n 0, 1) := by decide +kernel
theorem dX6_again_26 : decode cX6_again 26 = .ok (.getfield 109, 3) := by decide +kernel
theorem dX6_again_29 : decode cX6_again 29 = .ok (.invokevirtual 115, 3) := by decide +kernel
theorem dX6_again_32 : decode cX6_again 32 = .ok (.aload_n 0, 1) := by decide +kernel
theorem dX6_again_33 : decode cX6_again 33 = .ok (.getfield 109, 3) := by decide +kernel
theorem dX6_again_36 : decode cX6_again 36 = .ok (.iconst 1, 1) := by decide +kernel
theorem dX6_again_37 : decode cX6_again 37 = .ok (.isub, 1) := by decide +kernel
theorem dX6_again_38 : decode cX6_again 38 = .ok (.ireturn, 1) := by decide +kernel
theorem dX6_moves_0 : decode cX6_moves 0 = .ok (.aload_n 0, 1) := by decide +kernel
theorem dX6_moves_1 : decode cX6_moves 1 = .ok (.getfield 109, 3) := by decide +kernel
theorem dX6_moves_4 : decode cX6_moves 4 = .ok (.ireturn, 1) := by decide +kernel
theorem dX6_moveAt_0 : decode cX6_moveAt 0 = .ok (.iload_n 1, 1) := by decide +kernel
theorem dX6_moveAt_1 : decode cX6_moveAt 1 = .ok (.iconst 0, 1) := by decide +kernel
theorem dX6_moveAt_2 : decode cX6_moveAt 2 = .ok (.aload_n 0, 1) := by decide +kernel
theorem dX6_moveAt_3 : decode cX6_moveAt 3 = .ok (.getfield 109, 3) := by decide +kernel
theorem dX6_moveAt_6 : decode cX6_moveAt 6 = .ok (.iconst 1, 1) := by decide +kernel
theorem dX6_moveAt_7 : decode cX6_moveAt 7 = .ok (.isub, 1) := by decide +kernel
theorem dX6_moveAt_8 : decode cX6_moveAt 8 = .ok (.invokestatic 64, 3) := by decide +kernel
theorem dX6_moveAt_11 : decode cX6_moveAt 11 = .ok (.ifCond .eq 12, 3) := by decide +kernel
theorem dX6_moveAt_14 : decode cX6_moveAt 14 = .ok (.aload_n 0, 1) := by decide +kernel
theorem dX6_moveAt_15 : decode cX6_moveAt 15 = .ok (.getfield 13, 3) := by decide +kernel
theorem dX6_moveAt_18 : decode cX6_moveAt 18 = .ok (.iload_n 1, 1) := by decide +kernel
theorem dX6_moveAt_19 : decode cX6_moveAt 19 = .ok (.iaload, 1) := by decide +kernel
theorem dX6_moveAt_20 : decode cX6_moveAt 20 = .ok (.goto 5, 3) := by decide +kernel
theorem dX6_moveAt_23 : decode cX6_moveAt 23 = .ok (.bipush (-11), 2) := by decide +kernel
theorem dX6_moveAt_25 : decode cX6_moveAt 25 = .ok (.ireturn, 1) := by decide +kernel
theorem dX6_turn_0 : decode cX6_turn 0 = .ok (.aload_n 0, 1) := by decide +kernel
theorem dX6_turn_1 : decode cX6_turn 1 = .ok (.getfield 109, 3) := by decide +kernel
theorem dX6_turn_4 : decode cX6_turn 4 = .ok (.iconst 2, 1) := by decide +kernel
theorem dX6_turn_5 : decode cX6_turn 5 = .ok (.irem, 1) := by decide +kernel
theorem dX6_turn_6 : decode cX6_turn 6 = .ok (.ireturn, 1) := by decide +kernel
theorem dX6_winner_0 : decode cX6_winner 0 = .ok (.aload_n 0, 1) := by decide +kernel
theorem dX6_winner_1 : decode cX6_winner 1 = .ok (.invokevirtual 129, 3) := by decide +kernel
theorem dX6_winner_4 : decode cX6_winner 4 = .ok (.ireturn, 1) := by decide +kernel
theorem dX6_stones_0 : decode cX6_stones 0 = .ok (.iload_n 1, 1) := by decide +kernel
theorem dX6_stones_1 : decode cX6_stones 1 = .ok (.invokestatic 136, 3) := by decide +kernel
theorem dX6_stones_4 : decode cX6_stones 4 = .ok (.ifCond .eq 11, 3) := by decide +kernel
theorem dX6_stones_7 : decode cX6_stones 7 = .ok (.aload_n 0, 1) := by decide +kernel
theorem dX6_stones_8 : decode cX6_stones 8 = .ok (.iload_n 1, 1) := by decide +kernel
theorem dX6_stones_9 : decode cX6_stones 9 = .ok (.invokevirtual 139, 3) := by decide +kernel
theorem dX6_stones_12 : decode cX6_stones 12 = .ok (.goto 6, 3) := by decide +kernel
theorem dX6_stones_15 : decode cX6_stones 15 = .ok (.ldc2_w 142, 3) := by decide +kernel
theorem dX6_stones_18 : decode cX6_stones 18 = .ok (.lreturn, 1) := by decide +kernel
theorem dX6_beside_0 : decode cX6_beside 0 = .ok (.aload_n 0, 1) := by decide +kernel
theorem dX6_beside_1 : decode cX6_beside 1 = .ok (.iload_n 1, 1) := by decide +kernel
theorem dX6_beside_2 : decode cX6_beside 2 = .ok (.invokevirtual 122, 3) := by decide +kernel
theorem dX6_beside_5 : decode cX6_beside 5 = .ok (.ifCond .eq 12, 3) := by decide +kernel
theorem dX6_beside_8 : decode cX6_beside 8 = .ok (.aload_n 0, 1) := by decide +kernel
theorem dX6_beside_9 : decode cX6_beside 9 = .ok (.getfield 17, 3) := by decide +kernel
theorem dX6_beside_12 : decode cX6_beside 12 = .ok (.iload_n 1, 1) := by decide +kernel
theorem dX6_beside_13 : decode cX6_beside 13 = .ok (.laload, 1) := by decide +kernel
theorem dX6_beside_14 : decode cX6_beside 14 = .ok (.goto 6, 3) := by decide +kernel
theorem dX6_beside_17 : decode cX6_beside 17 = .ok (.ldc2_w 142, 3) := by decide +kernel
theorem dX6_beside_20 : decode cX6_beside 20 = .ok (.lreturn, 1) := by decide +kernel
theorem dX6_lowest_0 : decode cX6_lowest 0 = .ok (.iconst 0, 1) := by decide +kernel
theorem dX6_lowest_1 : decode cX6_lowest 1 = .ok (.istore_n 2, 1) := by decide +kernel
theorem dX6_lowest_2 : decode cX6_lowest 2 = .ok (.lload_n 0, 1) := by decide +kernel
theorem dX6_lowest_3 : decode cX6_lowest 3 = .ok (.iload_n 2, 1) := by decide +kernel
theorem dX6_lowest_4 : decode cX6_lowest 4 = .ok (.invokestatic 85, 3) := by decide +kernel
theorem dX6_lowest_7 : decode cX6_lowest 7 = .ok (.ifCond .ne 9, 3) := by decide +kernel
theorem dX6_lowest_10 : decode cX6_lowest 10 = .ok (.iinc 2 1, 3) := by decide +kernel
theorem dX6_lowest_13 : decode cX6_lowest 13 = .ok (.goto (-11), 3) := by decide +kernel
theorem dX6_lowest_16 : decode cX6_lowest 16 = .ok (.iload_n 2, 1) := by decide +kernel
theorem dX6_lowest_17 : decode cX6_lowest 17 = .ok (.ireturn, 1) := by decide +kernel
theorem dX6_chainWith_0 : decode cX6_chainWith 0 = .ok (.aload_n 0, 1) := by decide +kernel
theorem dX6_chainWith_1 : decode cX6_chainWith 1 = .ok (.lconst 1, 1) := by decide +kernel
theorem dX6_chainWith_2 : decode cX6_chainWith 2 = .ok (.iload_n 1, 1) := by decide +kernel
theorem dX6_chainWith_3 : decode cX6_chainWith 3 = .ok (.lshl, 1) := by decide +kernel
theorem dX6_chainWith_4 : decode cX6_chainWith 4 = .ok (.aload_n 0, 1) := by decide +kernel
theorem dX6_chainWith_5 : decode cX6_chainWith 5 = .ok (.getfield 76, 3) := by decide +kernel
theorem dX6_chainWith_8 : decode cX6_chainWith 8 = .ok (.iload_n 1, 1) := by decide +kernel
theorem dX6_chainWith_9 : decode cX6_chainWith 9 = .ok (.invokestatic 85, 3) := by decide +kernel
theorem dX6_chainWith_12 : decode cX6_chainWith 12 = .ok (.ifCond .eq 10, 3) := by decide +kernel
theorem dX6_chainWith_15 : decode cX6_chainWith 15 = .ok (.aload_n 0, 1) := by decide +kernel
theorem dX6_chainWith_16 : decode cX6_chainWith 16 = .ok (.getfield 76, 3) := by decide +kernel
theorem dX6_chainWith_19 : decode cX6_chainWith 19 = .ok (.goto 7, 3) := by decide +kernel
theorem dX6_chainWith_22 : decode cX6_chainWith 22 = .ok (.aload_n 0, 1) := by decide +kernel
theorem dX6_chainWith_23 : decode cX6_chainWith 23 = .ok (.getfield 82, 3) := by decide +kernel
theorem dX6_chainWith_26 : decode cX6_chainWith 26 = .ok (.invokevirtual 97, 3) := by decide +kernel
theorem dX6_chainWith_29 : decode cX6_chainWith 29 = .ok (.lreturn, 1) := by decide +kernel
theorem dX6_chains_0 : decode cX6_chains 0 = .ok (.iload_n 1, 1) := by decide +kernel
theorem dX6_chains_1 : decode cX6_chains 1 = .ok (.invokestatic 136, 3) := by decide +kernel
theorem dX6_chains_4 : decode cX6_chains 4 = .ok (.ifCond .ne 6, 3) := by decide +kernel
theorem dX6_chains_7 : decode cX6_chains 7 = .ok (.bipush (-11), 2) := by decide +kernel
theorem dX6_chains_9 : decode cX6_chains 9 = .ok (.ireturn, 1) := by decide +kernel
theorem dX6_chains_10 : decode cX6_chains 10 = .ok (.iconst 0, 1) := by decide +kernel
theorem dX6_chains_11 : decode cX6_chains 11 = .ok (.istore_n 2, 1) := by decide +kernel
theorem dX6_chains_12 : decode cX6_chains 12 = .ok (.aload_n 0, 1) := by decide +kernel
theorem dX6_chains_13 : decode cX6_chains 13 = .ok (.iload_n 1, 1) := by decide +kernel
theorem dX6_chains_14 : decode cX6_chains 14 = .ok (.invokevirtual 139, 3) := by decide +kernel
theorem dX6_chains_17 : decode cX6_chains 17 = .ok (.lstore_n 3, 1) := by decide +kernel
theorem dX6_chains_18 : decode cX6_chains 18 = .ok (.lload_n 3, 1) := by decide +kernel
theorem dX6_chains_19 : decode cX6_chains 19 = .ok (.lconst 0, 1) := by decide +kernel
theorem dX6_chains_20 : decode cX6_chains 20 = .ok (.lcmp, 1) := by decide +kernel
theorem dX6_chains_21 : decode cX6_chains 21 = .ok (.ifCond .eq 24, 3) := by decide +kernel
theorem dX6_chains_24 : decode cX6_chains 24 = .ok (.iinc 2 1, 3) := by decide +kernel
theorem dX6_chains_27 : decode cX6_chains 27 = .ok (.lload_n 3, 1) := by decide +kernel
theorem dX6_chains_28 : decode cX6_chains 28 = .ok (.aload_n 0, 1) := by decide +kernel
theorem dX6_chains_29 : decode cX6_chains 29 = .ok (.lload_n 3, 1) := by decide +kernel
theorem dX6_chains_30 : decode cX6_chains 30 = .ok (.invokestatic 144, 3) := by decide +kernel
theorem dX6_chains_33 : decode cX6_chains 33 = .ok (.invokevirtual 148, 3) := by decide +kernel
theorem dX6_chains_36 : decode cX6_chains 36 = .ok (.ldc2_w 80, 3) := by decide +kernel
theorem dX6_chains_39 : decode cX6_chains 39 = .ok (.lxor, 1) := by decide +kernel
theorem dX6_chains_40 : decode cX6_chains 40 = .ok (.land, 1) := by decide +kernel
theorem dX6_chains_41 : decode cX6_chains 41 = .ok (.lstore_n 3, 1) := by decide +kernel
theorem dX6_chains_42 : decode cX6_chains 42 = .ok (.goto (-24), 3) := by decide +kernel
theorem dX6_chains_45 : decode cX6_chains 45 = .ok (.iload_n 2, 1) := by decide +kernel
theorem dX6_chains_46 : decode cX6_chains 46 = .ok (.ireturn, 1) := by decide +kernel
theorem dX6_chainOf_0 : decode cX6_chainOf 0 = .ok (.aload_n 0, 1) := by decide +kernel
theorem dX6_chainOf_1 : decode cX6_chainOf 1 = .ok (.iload_n 1, 1) := by decide +kernel
theorem dX6_chainOf_2 : decode cX6_chainOf 2 = .ok (.invokevirtual 122, 3) := by decide +kernel
theorem dX6_chainOf_5 : decode cX6_chainOf 5 = .ok (.ifCond .ne 6, 3) := by decide +kernel
theorem dX6_chainOf_8 : decode cX6_chainOf 8 = .ok (.bipush (-11), 2) := by decide +kernel
theorem dX6_chainOf_10 : decode cX6_chainOf 10 = .ok (.ireturn, 1) := by decide +kernel
theorem dX6_chainOf_11 : decode cX6_chainOf 11 = .ok (.aload_n 0, 1) := by decide +kernel
theorem dX6_chainOf_12 : decode cX6_chainOf 12 = .ok (.invokevirtual 126, 3) := by decide +kernel
theorem dX6_chainOf_15 : decode cX6_chainOf 15 = .ok (.iload_n 1, 1) := by decide +kernel
theorem dX6_chainOf_16 : decode cX6_chainOf 16 = .ok (.invokestatic 85, 3) := by decide +kernel
theorem dX6_chainOf_19 : decode cX6_chainOf 19 = .ok (.ifCond .eq 8, 3) := by decide +kernel
theorem dX6_chainOf_22 : decode cX6_chainOf 22 = .ok (.bipush (-15), 2) := by decide +kernel
theorem dX6_chainOf_24 : decode cX6_chainOf 24 = .ok (.goto 11, 3) := by decide +kernel
theorem dX6_chainOf_27 : decode cX6_chainOf 27 = .ok (.aload_n 0, 1) := by decide +kernel
theorem dX6_chainOf_28 : decode cX6_chainOf 28 = .ok (.iload_n 1, 1) := by decide +kernel
theorem dX6_chainOf_29 : decode cX6_chainOf 29 = .ok (.invokevirtual 148, 3) := by decide +kernel
theorem dX6_chainOf_32 : decode cX6_chainOf 32 = .ok (.invokestatic 144, 3) := by decide +kernel
theorem dX6_chainOf_35 : decode cX6_chainOf 35 = .ok (.ireturn, 1) := by decide +kernel
theorem dX6_chain_0 : decode cX6_chain 0 = .ok (.aload_n 0, 1) := by decide +kernel
theorem dX6_chain_1 : decode cX6_chain 1 = .ok (.iload_n 1, 1) := by decide +kernel
theorem dX6_chain_2 : decode cX6_chain 2 = .ok (.invokevirtual 122, 3) := by decide +kernel
theorem dX6_chain_5 : decode cX6_chain 5 = .ok (.ifCond .eq 30, 3) := by decide +kernel
theorem dX6_chain_8 : decode cX6_chain 8 = .ok (.aload_n 0, 1) := by decide +kernel
theorem dX6_chain_9 : decode cX6_chain 9 = .ok (.invokevirtual 126, 3) := by decide +kernel
theorem dX6_chain_12 : decode cX6_chain 12 = .ok (.iload_n 1, 1) := by decide +kernel
theorem dX6_chain_13 : decode cX6_chain 13 = .ok (.invokestatic 85, 3) := by decide +kernel
theorem dX6_chain_16 : decode cX6_chain 16 = .ok (.ifCond .ne 19, 3) := by decide +kernel
theorem dX6_chain_19 : decode cX6_chain 19 = .ok (.aload_n 0, 1) := by decide +kernel
theorem dX6_chain_20 : decode cX6_chain 20 = .ok (.iload_n 1, 1) := by decide +kernel
theorem dX6_chain_21 : decode cX6_chain 21 = .ok (.invokevirtual 148, 3) := by decide +kernel
theorem dX6_chain_24 : decode cX6_chain 24 = .ok (.invokestatic 144, 3) := by decide +kernel
theorem dX6_chain_27 : decode cX6_chain 27 = .ok (.iload_n 1, 1) := by decide +kernel
theorem dX6_chain_28 : decode cX6_chain 28 = .ok (.if_icmp .ne 7, 3) := by decide +kernel
theorem dX6_chain_31 : decode cX6_chain 31 = .ok (.iconst 1, 1) := by decide +kernel
theorem dX6_chain_32 : decode cX6_chain 32 = .ok (.goto 4, 3) := by decide +kernel
theorem dX6_chain_35 : decode cX6_chain 35 = .ok (.iconst 0, 1) := by decide +kernel
theorem dX6_chain_36 : decode cX6_chain 36 = .ok (.istore_n 2, 1) := by decide +kernel
theorem dX6_chain_37 : decode cX6_chain 37 = .ok (.iload_n 2, 1) := by decide +kernel
theorem dX6_chain_38 : decode cX6_chain 38 = .ok (.ifCond .eq 11, 3) := by decide +kernel
theorem dX6_chain_41 : decode cX6_chain 41 = .ok (.aload_n 0, 1) := by decide +kernel
theorem dX6_chain_42 : decode cX6_chain 42 = .ok (.iload_n 1, 1) := by decide +kernel
theorem dX6_chain_43 : decode cX6_chain 43 = .ok (.invokevirtual 148, 3) := by decide +kernel
theorem dX6_chain_46 : decode cX6_chain 46 = .ok (.goto 6, 3) := by decide +kernel
theorem dX6_chain_49 : decode cX6_chain 49 = .ok (.ldc2_w 142, 3) := by decide +kernel
theorem dX6_chain_52 : decode cX6_chain 52 = .ok (.lreturn, 1) := by decide +kernel
theorem dX6_levels_0 : decode cX6_levels 0 = .ok (.iconst 0, 1) := by decide +kernel
theorem dX6_levels_1 : decode cX6_levels 1 = .ok (.istore 4, 2) := by decide +kernel
theorem dX6_levels_3 : decode cX6_levels 3 = .ok (.iload 4, 2) := by decide +kernel
theorem dX6_levels_5 : decode cX6_levels 5 = .ok (.bipush 49, 2) := by decide +kernel
theorem dX6_levels_7 : decode cX6_levels 7 = .ok (.if_icmp .ge 15, 3) := by decide +kernel
theorem dX6_levels_10 : decode cX6_levels 10 = .ok (.aload_n 3, 1) := by decide +kernel
theorem dX6_levels_11 : decode cX6_levels 11 = .ok (.iload 4, 2) := by decide +kernel
theorem dX6_levels_13 : decode cX6_levels 13 = .ok (.bipush 100, 2) := by decide +kernel
theorem dX6_levels_15 : decode cX6_levels 15 = .ok (.iastore, 1) := by decide +kernel
theorem dX6_levels_16 : decode cX6_levels 16 = .ok (.iinc 4 1, 3) := by decide +kernel
theorem dX6_levels_19 : decode cX6_levels 19 = .ok (.goto (-16), 3) := by decide +kernel
theorem dX6_levels_22 : decode cX6_levels 22 = .ok (.aload_n 0, 1) := by decide +kernel
theorem dX6_levels_23 : decode cX6_levels 23 = .ok (.iload_n 1, 1) := by decide +kernel
theorem dX6_levels_24 : decode cX6_levels 24 = .ok (.invokevirtual 139, 3) := by decide +kernel
theorem dX6_levels_27 : decode cX6_levels 27 = .ok (.lstore 4, 2) := by decide +kernel
theorem dX6_levels_29 : decode cX6_levels 29 = .ok (.aload_n 0, 1) := by decide +kernel
theorem dX6_levels_30 : decode cX6_levels 30 = .ok (.aload_n 0, 1) := by decide +kernel
theorem dX6_levels_31 : decode cX6_levels 31 = .ok (.iload_n 2, 1) := by decide +kernel
theorem dX6_levels_32 : decode cX6_levels 32 = .ok (.invokevirtual 93, 3) := by decide +kernel
theorem dX6_levels_35 : decode cX6_levels 35 = .ok (.lload 4, 2) := by decide +kernel
theorem dX6_levels_37 : decode cX6_levels 37 = .ok (.invokevirtual 97, 3) := by decide +kernel
theorem dX6_levels_40 : decode cX6_levels 40 = .ok (.lstore 6, 2) := by decide +kernel
theorem dX6_levels_42 : decode cX6_levels 42 = .ok (.iconst 0, 1) := by decide +kernel
theorem dX6_levels_43 : decode cX6_levels 43 = .ok (.istore 8, 2) := by decide +kernel
theorem dX6_levels_45 : decode cX6_levels 45 = .ok (.ldc2_w 80, 3) := by decide +kernel
theorem dX6_levels_48 : decode cX6_levels 48 = .ok (.lstore 9, 2) := by decide +kernel
theorem dX6_levels_50 : decode cX6_levels 50 = .ok (.lload 9, 2) := by decide +kernel
theorem dX6_levels_52 : decode cX6_levels 52 = .ok (.lload 6, 2) := by decide +kernel
theorem dX6_levels_54 : decode cX6_levels 54 = .ok (.lcmp, 1) := by decide +kernel
theorem dX6_levels_55 : decode cX6_levels 55 = .ok (.ifCond .eq 107, 3) := by decide +kernel
theorem dX6_levels_58 : decode cX6_levels 58 = .ok (.iconst 0, 1) := by decide +kernel
theorem dX6_levels_59 : decode cX6_levels 59 = .ok (.istore 11, 2) := by decide +kernel
theorem dX6_levels_61 : decode cX6_levels 61 = .ok (.iload 11, 2) := by decide +kernel
theorem dX6_levels_63 : decode cX6_levels 63 = .ok (.aload_n 0, 1) := by decide +kernel
theorem dX6_levels_64 : decode cX6_levels 64 = .ok (.getfield 7, 3) := by decide +kernel
theorem dX6_levels_67 : decode cX6_levels 67 = .ok (.aload_n 0, 1) := by decide +kernel
theorem dX6_levels_68 : decode cX6_levels 68 = .ok (.getfield 7, 3) := by decide +kernel
theorem dX6_levels_71 : decode cX6_levels 71 = .ok (.imul, 1) := by decide +kernel
theorem dX6_levels_72 : decode cX6_levels 72 = .ok (.if_icmp .ge 41, 3) := by decide +kernel
theorem dX6_levels_75 : decode cX6_levels 75 = .ok (.aload_n 3, 1) := by decide +kernel
theorem dX6_levels_76 : decode cX6_levels 76 = .ok (.iload 11, 2) := by decide +kernel
theorem dX6_levels_78 : decode cX6_levels 78 = .ok (.lload 6, 2) := by decide +kernel
theorem dX6_levels_80 : decode cX6_levels 80 = .ok (.iload 11, 2) := by decide +kernel
theorem dX6_levels_82 : decode cX6_levels 82 = .ok (.invokestatic 85, 3) := by decide +kernel
theorem dX6_levels_85 : decode cX6_levels 85 = .ok (.ifCond .eq 17, 3) := by decide +kernel
theorem dX6_levels_88 : decode cX6_levels 88 = .ok (.aload_n 3, 1) := by decide +kernel
theorem dX6_levels_89 : decode cX6_levels 89 = .ok (.iload 11, 2) := by decide +kernel
theorem dX6_levels_91 : decode cX6_levels 91 = .ok (.iaload, 1) := by decide +kernel
theorem dX6_levels_92 : decode cX6_levels 92 = .ok (.bipush 100, 2) := by decide +kernel
theorem dX6_levels_94 : decode cX6_levels 94 = .ok (.if_icmp .ne 8, 3) := by decide +kernel
theorem dX6_levels_97 : decode cX6_levels 97 = .ok (.iload 8, 2) := by decide +kernel
theorem dX6_levels_99 : decode cX6_levels 99 = .ok (.goto 7, 3) := by decide +kernel
theorem dX6_levels_102 : decode cX6_levels 102 = .ok (.aload_n 3, 1) := by decide +kernel
theorem dX6_levels_103 : decode cX6_levels 103 = .ok (.iload 11, 2) := by decide +kernel
theorem dX6_levels_105 : decode cX6_levels 105 = .ok (.iaload, 1) := by decide +kernel
theorem dX6_levels_106 : decode cX6_levels 106 = .ok (.iastore, 1) := by decide +kernel
theorem dX6_levels_107 : decode cX6_levels 107 = .ok (.iinc 11 1, 3) := by decide +kernel
theorem dX6_levels_110 : decode cX6_levels 110 = .ok (.goto (-49), 3) := by decide +kernel
theorem dX6_levels_113 : decode cX6_levels 113 = .ok (.lload 6, 2) := by decide +kernel
theorem dX6_levels_115 : decode cX6_levels 115 = .ok (.lstore 9, 2) := by decide +kernel
theorem dX6_levels_117 : decode cX6_levels 117 = .ok (.lload 6, 2) := by decide +kernel
theorem dX6_levels_119 : decode cX6_levels 119 = .ok (.aload_n 0, 1) := by decide +kernel
theorem dX6_levels_120 : decode cX6_levels 120 = .ok (.lload 6, 2) := by decide +kernel
theorem dX6_levels_122 : decode cX6_levels 122 = .ok (.invokevirtual 89, 3) := by decide +kernel
theorem dX6_levels_125 : decode cX6_levels 125 = .ok (.aload_n 0, 1) := by decide +kernel
theorem dX6_levels_126 : decode cX6_levels 126 = .ok (.iload_n 2, 1) := by decide +kernel
theorem dX6_levels_127 : decode cX6_levels 127 = .ok (.invokevirtual 93, 3) := by decide +kernel
theorem dX6_levels_130 : decode cX6_levels 130 = .ok (.lor, 1) := by decide +kernel
theorem dX6_levels_131 : decode cX6_levels 131 = .ok (.aload_n 0, 1) := by decide +kernel
theorem dX6_levels_132 : decode cX6_levels 132 = .ok (.invokevirtual 126, 3) := by decide +kernel
theorem dX6_levels_135 : decode cX6_levels 135 = .ok (.land, 1) := by decide +kernel
theorem dX6_levels_136 : decode cX6_levels 136 = .ok (.lor, 1) := by decide +kernel
theorem dX6_levels_137 : decode cX6_levels 137 = .ok (.lstore 6, 2) := by decide +kernel
theorem dX6_levels_139 : decode cX6_levels 139 = .ok (.lload 6, 2) := by decide +kernel
theorem dX6_levels_141 : decode cX6_levels 141 = .ok (.aload_n 0, 1) := by decide +kernel
theorem dX6_levels_142 : decode cX6_levels 142 = .ok (.aload_n 0, 1) := by decide +kernel
theorem dX6_levels_143 : decode cX6_levels 143 = .ok (.lload 6, 2) := by decide +kernel
theorem dX6_levels_145 : decode cX6_levels 145 = .ok (.invokevirtual 89, 3) := by decide +kernel
theorem dX6_levels_148 : decode cX6_levels 148 = .ok (.lload 4, 2) := by decide +kernel
theorem dX6_levels_150 : decode cX6_levels 150 = .ok (.invokevirtual 97, 3) := by decide +kernel
theorem dX6_levels_153 : decode cX6_levels 153 = .ok (.lor, 1) := by decide +kernel
theorem dX6_levels_154 : decode cX6_levels 154 = .ok (.lstore 6, 2) := by decide +kernel
theorem dX6_levels_156 : decode cX6_levels 156 = .ok (.iinc 8 1, 3) := by decide +kernel
theorem dX6_levels_159 : decode cX6_levels 159 = .ok (.goto (-109), 3) := by decide +kernel
theorem dX6_levels_162 : decode cX6_levels 162 = .ok (.return_, 1) := by decide +kernel
theorem dX6_distanceOf_0 : decode cX6_distanceOf 0 = .ok (.aload_n 0, 1) := by decide +kernel
theorem dX6_distanceOf_1 : decode cX6_distanceOf 1 = .ok (.iload_n 1, 1) := by decide +kernel
theorem dX6_distanceOf_2 : decode cX6_distanceOf 2 = .ok (.iconst 2, 1) := by decide +kernel
theorem dX6_distanceOf_3 : decode cX6_distanceOf 3 = .ok (.iload_n 1, 1) := by decide +kernel
theorem dX6_distanceOf_4 : decode cX6_distanceOf 4 = .ok (.imul, 1) := by decide +kernel
theorem dX6_distanceOf_5 : decode cX6_distanceOf 5 = .ok (.aload_n 0, 1) := by decide +kernel
theorem dX6_distanceOf_6 : decode cX6_distanceOf 6 = .ok (.getfield 37, 3) := by decide +kernel
theorem dX6_distanceOf_9 : decode cX6_distanceOf 9 = .ok (.invokevirtual 151, 3) := by decide +kernel
theorem dX6_distanceOf_12 : decode cX6_distanceOf 12 = .ok (.aload_n 0, 1) := by decide +kernel
theorem dX6_distanceOf_13 : decode cX6_distanceOf 13 = .ok (.iconst 2, 1) := by decide +kernel
theorem dX6_distanceOf_14 : decode cX6_distanceOf 14 = .ok (.iload_n 1, 1) := by decide +kernel
theorem dX6_distanceOf_15 : decode cX6_distanceOf 15 = .ok (.imul, 1) := by decide +kernel
theorem dX6_distanceOf_16 : decode cX6_distanceOf 16 = .ok (.iconst 1, 1) := by decide +kernel
theorem dX6_distanceOf_17 : decode cX6_distanceOf 17 = .ok (.iadd, 1) := by decide +kernel
theorem dX6_distanceOf_18 : decode cX6_distanceOf 18 = .ok (.invokevirtual 93, 3) := by decide +kernel
theorem dX6_distanceOf_21 : decode cX6_distanceOf 21 = .ok (.lstore_n 2, 1) := by decide +kernel
theorem dX6_distanceOf_22 : decode cX6_distanceOf 22 = .ok (.bipush 100, 2) := by decide +kernel
theorem dX6_distanceOf_24 : decode cX6_distanceOf 24 = .ok (.istore 4, 2) := by decide +kernel
theorem dX6_distanceOf_26 : decode cX6_distanceOf 26 = .ok (.iconst 0, 1) := by decide +kernel
theorem dX6_distanceOf_27 : decode cX6_distanceOf 27 = .ok (.istore 5, 2) := by decide +kernel
theorem dX6_distanceOf_29 : decode cX6_distanceOf 29 = .ok (.iload 5, 2) := by decide +kernel
theorem dX6_distanceOf_31 : decode cX6_distanceOf 31 = .ok (.aload_n 0, 1) := by decide +kernel
theorem dX6_distanceOf_32 : decode cX6_distanceOf 32 = .ok (.getfield 7, 3) := by decide +kernel
theorem dX6_distanceOf_35 : decode cX6_distanceOf 35 = .ok (.aload_n 0, 1) := by decide +kernel
theorem dX6_distanceOf_36 : decode cX6_distanceOf 36 = .ok (.getfield 7, 3) := by decide +kernel
theorem dX6_distanceOf_39 : decode cX6_distanceOf 39 = .ok (.imul, 1) := by decide +kernel
theorem dX6_distanceOf_40 : decode cX6_distanceOf 40 = .ok (.if_icmp .ge 44, 3) := by decide +kernel
theorem dX6_distanceOf_43 : decode cX6_distanceOf 43 = .ok (.lload_n 2, 1) := by decide +kernel
theorem dX6_distanceOf_44 : decode cX6_distanceOf 44 = .ok (.iload 5, 2) := by decide +kernel
theorem dX6_distanceOf_46 : decode cX6_distanceOf 46 = .ok (.invokestatic 85, 3) := by decide +kernel
theorem dX6_distanceOf_49 : decode cX6_distanceOf 49 = .ok (.ifCond .eq 25, 3) := by decide +kernel
theorem dX6_distanceOf_52 : decode cX6_distanceOf 52 = .ok (.aload_n 0, 1) := by decide +kernel
theorem dX6_distanceOf_53 : decode cX6_distanceOf 53 = .ok (.getfield 37, 3) := by decide +kernel
theorem dX6_distanceOf_56 : decode cX6_distanceOf 56 = .ok (.iload 5, 2) := by decide +kernel
theorem dX6_distanceOf_58 : decode cX6_distanceOf 58 = .ok (.iaload, 1) := by decide +kernel
theorem dX6_distanceOf_59 : decode cX6_distanceOf 59 = .ok (.iload 4, 2) := by decide +kernel
theorem dX6_distanceOf_61 : decode cX6_distanceOf 61 = .ok (.if_icmp .ge 13, 3) := by decide +kernel
theorem dX6_distanceOf_64 : decode cX6_distanceOf 64 = .ok (.aload_n 0, 1) := by decide +kernel
theorem dX6_distanceOf_65 : decode cX6_distanceOf 65 = .ok (.getfield 37, 3) := by decide +kernel
theorem dX6_distanceOf_68 : decode cX6_distanceOf 68 = .ok (.iload 5, 2) := by decide +kernel
theorem dX6_distanceOf_70 : decode cX6_distanceOf 70 = .ok (.iaload, 1) := by decide +kernel
theorem dX6_distanceOf_71 : decode cX6_distanceOf 71 = .ok (.goto 5, 3) := by decide +kernel
theorem dX6_distanceOf_74 : decode cX6_distanceOf 74 = .ok (.iload 4, 2) := by decide +kernel
theorem dX6_distanceOf_76 : decode cX6_distanceOf 76 = .ok (.istore 4, 2) := by decide +kernel
theorem dX6_distanceOf_78 : decode cX6_distanceOf 78 = .ok (.iinc 5 1, 3) := by decide +kernel
theorem dX6_distanceOf_81 : decode cX6_distanceOf 81 = .ok (.goto (-52), 3) := by decide +kernel
theorem dX6_distanceOf_84 : decode cX6_distanceOf 84 = .ok (.iload 4, 2) := by decide +kernel
theorem dX6_distanceOf_86 : decode cX6_distanceOf 86 = .ok (.bipush 100, 2) := by decide +kernel
theorem dX6_distanceOf_88 : decode cX6_distanceOf 88 = .ok (.if_icmp .ne 8, 3) := by decide +kernel
theorem dX6_distanceOf_91 : decode cX6_distanceOf 91 = .ok (.bipush (-15), 2) := by decide +kernel
theorem dX6_distanceOf_93 : decode cX6_distanceOf 93 = .ok (.goto 5, 3) := by decide +kernel
theorem dX6_distanceOf_96 : decode cX6_distanceOf 96 = .ok (.iload 4, 2) := by decide +kernel
theorem dX6_distanceOf_98 : decode cX6_distanceOf 98 = .ok (.ireturn, 1) := by decide +kernel
theorem dX6_distance_0 : decode cX6_distance 0 = .ok (.iload_n 1, 1) := by decide +kernel
theorem dX6_distance_1 : decode cX6_distance 1 = .ok (.invokestatic 136, 3) := by decide +kernel
theorem dX6_distance_4 : decode cX6_distance 4 = .ok (.ifCond .eq 11, 3) := by decide +kernel
theorem dX6_distance_7 : decode cX6_distance 7 = .ok (.aload_n 0, 1) := by decide +kernel
theorem dX6_distance_8 : decode cX6_distance 8 = .ok (.iload_n 1, 1) := by decide +kernel
theorem dX6_distance_9 : decode cX6_distance 9 = .ok (.invokevirtual 155, 3) := by decide +kernel
theorem dX6_distance_12 : decode cX6_distance 12 = .ok (.goto 5, 3) := by decide +kernel
theorem dX6_distance_15 : decode cX6_distance 15 = .ok (.bipush (-11), 2) := by decide +kernel
theorem dX6_distance_17 : decode cX6_distance 17 = .ok (.ireturn, 1) := by decide +kernel
theorem dX6_shortestOf_0 : decode cX6_shortestOf 0 = .ok (.aload_n 0, 1) := by decide +kernel
theorem dX6_shortestOf_1 : decode cX6_shortestOf 1 = .ok (.iload_n 1, 1) := by decide +kernel
theorem dX6_shortestOf_2 : decode cX6_shortestOf 2 = .ok (.invokevirtual 155, 3) := by decide +kernel
theorem dX6_shortestOf_5 : decode cX6_shortestOf 5 = .ok (.istore_n 2, 1) := by decide +kernel
theorem dX6_shortestOf_6 : decode cX6_shortestOf 6 = .ok (.iload_n 2, 1) := by decide +kernel
theorem dX6_shortestOf_7 : decode cX6_shortestOf 7 = .ok (.bipush (-15), 2) := by decide +kernel
theorem dX6_shortestOf_9 : decode cX6_shortestOf 9 = .ok (.if_icmp .ne 7, 3) := by decide +kernel
theorem dX6_shortestOf_12 : decode cX6_shortestOf 12 = .ok (.ldc2_w 159, 3) := by decide +kernel
theorem dX6_shortestOf_15 : decode cX6_shortestOf 15 = .ok (.lreturn, 1) := by decide +kernel
theorem dX6_shortestOf_16 : decode cX6_shortestOf 16 = .ok (.aload_n 0, 1) := by decide +kernel
theorem dX6_shortestOf_17 : decode cX6_shortestOf 17 = .ok (.iload_n 1, 1) := by decide +kernel
theorem dX6_shortestOf_18 : decode cX6_shortestOf 18 = .ok (.iconst 2, 1) := by decide +kernel
theorem dX6_shortestOf_19 : decode cX6_shortestOf 19 = .ok (.iload_n 1, 1) := by decide +kernel
theorem dX6_shortestOf_20 : decode cX6_shortestOf 20 = .ok (.imul, 1) := by decide +kernel
theorem dX6_shortestOf_21 : decode cX6_shortestOf 21 = .ok (.iconst 1, 1) := by decide +kernel
theorem dX6_shortestOf_22 : decode cX6_shortestOf 22 = .ok (.iadd, 1) := by decide +kernel
theorem dX6_shortestOf_23 : decode cX6_shortestOf 23 = .ok (.aload_n 0, 1) := by decide +kernel
theorem dX6_shortestOf_24 : decode cX6_shortestOf 24 = .ok (.getfield 40, 3) := by decide +kernel
theorem dX6_shortestOf_27 : decode cX6_shortestOf 27 = .ok (.invokevirtual 151, 3) := by decide +kernel
theorem dX6_shortestOf_30 : decode cX6_shortestOf 30 = .ok (.lconst 0, 1) := by decide +kernel
theorem dX6_shortestOf_31 : decode cX6_shortestOf 31 = .ok (.lstore_n 3, 1) := by decide +kernel
theorem dX6_shortestOf_32 : decode cX6_shortestOf 32 = .ok (.iconst 0, 1) := by decide +kernel
theorem dX6_shortestOf_33 : decode cX6_shortestOf 33 = .ok (.istore 5, 2) := by decide +kernel
theorem dX6_shortestOf_35 : decode cX6_shortestOf 35 = .ok (.iload 5, 2) := by decide +kernel
theorem dX6_shortestOf_37 : decode cX6_shortestOf 37 = .ok (.aload_n 0, 1) := by decide +kernel
theorem dX6_shortestOf_38 : decode cX6_shortestOf 38 = .ok (.getfield 7, 3) := by decide +kernel
theorem dX6_shortestOf_41 : decode cX6_shortestOf 41 = .ok (.aload_n 0, 1) := by decide +kernel
theorem dX6_shortestOf_42 : decode cX6_shortestOf 42 = .ok (.getfield 7, 3) := by decide +kernel
theorem dX6_shortestOf_45 : decode cX6_shortestOf 45 = .ok (.imul, 1) := by decide +kernel
theorem dX6_shortestOf_46 : decode cX6_shortestOf 46 = .ok (.if_icmp .ge 53, 3) := by decide +kernel
theorem dX6_shortestOf_49 : decode cX6_shortestOf 49 = .ok (.lload_n 3, 1) := by decide +kernel
theorem dX6_shortestOf_50 : decode cX6_shortestOf 50 = .ok (.aload_n 0, 1) := by decide +kernel
theorem dX6_shortestOf_51 : decode cX6_shortestOf 51 = .ok (.invokevirtual 126, 3) := by decide +kernel
theorem dX6_shortestOf_54 : decode cX6_shortestOf 54 = .ok (.iload 5, 2) := by decide +kernel
theorem dX6_shortestOf_56 : decode cX6_shortestOf 56 = .ok (.invokestatic 85, 3) := by decide +kernel
theorem dX6_shortestOf_59 : decode cX6_shortestOf 59 = .ok (.ifCond .eq 31, 3) := by decide +kernel
theorem dX6_shortestOf_62 : decode cX6_shortestOf 62 = .ok (.aload_n 0, 1) := by decide +kernel
theorem dX6_shortestOf_63 : decode cX6_shortestOf 63 = .ok (.getfield 37, 3) := by decide +kernel
theorem dX6_shortestOf_66 : decode cX6_shortestOf 66 = .ok (.iload 5, 2) := by decide +kernel
theorem dX6_shortestOf_68 : decode cX6_shortestOf 68 = .ok (.iaload, 1) := by decide +kernel
theorem dX6_shortestOf_69 : decode cX6_shortestOf 69 = .ok (.aload_n 0, 1) := by decide +kernel
theorem dX6_shortestOf_70 : decode cX6_shortestOf 70 = .ok (.getfield 40, 3) := by decide +kernel
theorem dX6_shortestOf_73 : decode cX6_shortestOf 73 = .ok (.iload 5, 2) := by decide +kernel
theorem dX6_shortestOf_75 : decode cX6_shortestOf 75 = .ok (.iaload, 1) := by decide +kernel
theorem dX6_shortestOf_76 : decode cX6_shortestOf 76 = .ok (.iadd, 1) := by decide +kernel
theorem dX6_shortestOf_77 : decode cX6_shortestOf 77 = .ok (.iload_n 2, 1) := by decide +kernel
theorem dX6_shortestOf_78 : decode cX6_shortestOf 78 = .ok (.iconst 1, 1) := by decide +kernel
theorem dX6_shortestOf_79 : decode cX6_shortestOf 79 = .ok (.iadd, 1) := by decide +kernel
theorem dX6_shortestOf_80 : decode cX6_shortestOf 80 = .ok (.if_icmp .ne 10, 3) := by decide +kernel
theorem dX6_shortestOf_83 : decode cX6_shortestOf 83 = .ok (.lconst 1, 1) := by decide +kernel
theorem dX6_shortestOf_84 : decode cX6_shortestOf 84 = .ok (.iload 5, 2) := by decide +kernel
theorem dX6_shortestOf_86 : decode cX6_shortestOf 86 = .ok (.lshl, 1) := by decide +kernel
theorem dX6_shortestOf_87 : decode cX6_shortestOf 87 = .ok (.goto 4, 3) := by decide +kernel
theorem dX6_shortestOf_90 : decode cX6_shortestOf 90 = .ok (.lconst 0, 1) := by decide +kernel
theorem dX6_shortestOf_91 : decode cX6_shortestOf 91 = .ok (.lor, 1) := by decide +kernel
theorem dX6_shortestOf_92 : decode cX6_shortestOf 92 = .ok (.lstore_n 3, 1) := by decide +kernel
theorem dX6_shortestOf_93 : decode cX6_shortestOf 93 = .ok (.iinc 5 1, 3) := by decide +kernel
theorem dX6_shortestOf_96 : decode cX6_shortestOf 96 = .ok (.goto (-61), 3) := by decide +kernel
theorem dX6_shortestOf_99 : decode cX6_shortestOf 99 = .ok (.lload_n 3, 1) := by decide +kernel
theorem dX6_shortestOf_100 : decode cX6_shortestOf 100 = .ok (.lreturn, 1) := by decide +kernel
theorem dX6_shortest_0 : decode cX6_shortest 0 = .ok (.iload_n 1, 1) := by decide +kernel
theorem dX6_shortest_1 : decode cX6_shortest 1 = .ok (.invokestatic 136, 3) := by decide +kernel
theorem dX6_shortest_4 : decode cX6_shortest 4 = .ok (.ifCond .eq 11, 3) := by decide +kernel
theorem dX6_shortest_7 : decode cX6_shortest 7 = .ok (.aload_n 0, 1) := by decide +kernel
theorem dX6_shortest_8 : decode cX6_shortest 8 = .ok (.iload_n 1, 1) := by decide +kernel
theorem dX6_shortest_9 : decode cX6_shortest 9 = .ok (.invokevirtual 161, 3) := by decide +kernel
theorem dX6_shortest_12 : decode cX6_shortest 12 = .ok (.goto 6, 3) := by decide +kernel
theorem dX6_shortest_15 : decode cX6_shortest 15 = .ok (.ldc2_w 142, 3) := by decide +kernel
theorem dX6_shortest_18 : decode cX6_shortest 18 = .ok (.lreturn, 1) := by decide +kernel
theorem dX6_cut_0 : decode cX6_cut 0 = .ok (.iload_n 1, 1) := by decide +kernel
theorem dX6_cut_1 : decode cX6_cut 1 = .ok (.invokestatic 136, 3) := by decide +kernel
theorem dX6_cut_4 : decode cX6_cut 4 = .ok (.ifCond .eq 13, 3) := by decide +kernel
theorem dX6_cut_7 : decode cX6_cut 7 = .ok (.aload_n 0, 1) := by decide +kernel
theorem dX6_cut_8 : decode cX6_cut 8 = .ok (.iconst 1, 1) := by decide +kernel
theorem dX6_cut_9 : decode cX6_cut 9 = .ok (.iload_n 1, 1) := by decide +kernel
theorem dX6_cut_10 : decode cX6_cut 10 = .ok (.isub, 1) := by decide +kernel
theorem dX6_cut_11 : decode cX6_cut 11 = .ok (.invokevirtual 155, 3) := by decide +kernel
theorem dX6_cut_14 : decode cX6_cut 14 = .ok (.goto 5, 3) := by decide +kernel
theorem dX6_cut_17 : decode cX6_cut 17 = .ok (.bipush (-11), 2) := by decide +kernel
theorem dX6_cut_19 : decode cX6_cut 19 = .ok (.ireturn, 1) := by decide +kernel
theorem dX6_carrier_0 : decode cX6_carrier 0 = .ok (.aload_n 0, 1) := by decide +kernel
theorem dX6_carrier_1 : decode cX6_carrier 1 = .ok (.getfield 17, 3) := by decide +kernel
theorem dX6_carrier_4 : decode cX6_carrier 4 = .ok (.iload_n 1, 1) := by decide +kernel
theorem dX6_carrier_5 : decode cX6_carrier 5 = .ok (.laload, 1) := by decide +kernel
theorem dX6_carrier_6 : decode cX6_carrier 6 = .ok (.aload_n 0, 1) := by decide +kernel
theorem dX6_carrier_7 : decode cX6_carrier 7 = .ok (.getfield 17, 3) := by decide +kernel
theorem dX6_carrier_10 : decode cX6_carrier 10 = .ok (.iload_n 2, 1) := by decide +kernel
theorem dX6_carrier_11 : decode cX6_carrier 11 = .ok (.laload, 1) := by decide +kernel
theorem dX6_carrier_12 : decode cX6_carrier 12 = .ok (.land, 1) := by decide +kernel
theorem dX6_carrier_13 : decode cX6_carrier 13 = .ok (.lstore 5, 2) := by decide +kernel
theorem dX6_carrier_15 : decode cX6_carrier 15 = .ok (.aload_n 0, 1) := by decide +kernel
theorem dX6_carrier_16 : decode cX6_carrier 16 = .ok (.getfield 17, 3) := by decide +kernel
theorem dX6_carrier_19 : decode cX6_carrier 19 = .ok (.iload_n 1, 1) := by decide +kernel
theorem dX6_carrier_20 : decode cX6_carrier 20 = .ok (.laload, 1) := by decide +kernel
theorem dX6_carrier_21 : decode cX6_carrier 21 = .ok (.iload_n 2, 1) := by decide +kernel
theorem dX6_carrier_22 : decode cX6_carrier 22 = .ok (.invokestatic 85, 3) := by decide +kernel
theorem dX6_carrier_25 : decode cX6_carrier 25 = .ok (.ifCond .ne 22, 3) := by decide +kernel
theorem dX6_carrier_28 : decode cX6_carrier 28 = .ok (.lload 5, 2) := by decide +kernel
theorem dX6_carrier_30 : decode cX6_carrier 30 = .ok (.invokestatic 164, 3) := by decide +kernel
theorem dX6_carrier_33 : decode cX6_carrier 33 = .ok (.iconst 2, 1) := by decide +kernel
theorem dX6_carrier_34 : decode cX6_carrier 34 = .ok (.if_icmp .ne 13, 3) := by decide +kernel
theorem dX6_carrier_37 : decode cX6_carrier 37 = .ok (.lload 5, 2) := by decide +kernel
theorem dX6_carrier_39 : decode cX6_carrier 39 = .ok (.lload_n 3, 1) := by decide +kernel
theorem dX6_carrier_40 : decode cX6_carrier 40 = .ok (.land, 1) := by decide +kernel
theorem dX6_carrier_41 : decode cX6_carrier 41 = .ok (.lload 5, 2) := by decide +kernel
theorem dX6_carrier_43 : decode cX6_carrier 43 = .ok (.lcmp, 1) := by decide +kernel
theorem dX6_carrier_44 : decode cX6_carrier 44 = .ok (.ifCond .eq 7, 3) := by decide +kernel
theorem dX6_carrier_47 : decode cX6_carrier 47 = .ok (.lconst 0, 1) := by decide +kernel
theorem dX6_carrier_48 : decode cX6_carrier 48 = .ok (.goto 5, 3) := by decide +kernel
theorem dX6_carrier_51 : decode cX6_carrier 51 = .ok (.lload 5, 2) := by decide +kernel
theorem dX6_carrier_53 : decode cX6_carrier 53 = .ok (.lreturn, 1) := by decide +kernel
theorem dX6_bridges_0 : decode cX6_bridges 0 = .ok (.iload_n 1, 1) := by decide +kernel
theorem dX6_bridges_1 : decode cX6_bridges 1 = .ok (.invokestatic 136, 3) := by decide +kernel
theorem dX6_bridges_4 : decode cX6_bridges 4 = .ok (.ifCond .ne 6, 3) := by decide +kernel
theorem dX6_bridges_7 : decode cX6_bridges 7 = .ok (.bipush (-11), 2) := by decide +kernel
theorem dX6_bridges_9 : decode cX6_bridges 9 = .ok (.ireturn, 1) := by decide +kernel
theorem dX6_bridges_10 : decode cX6_bridges 10 = .ok (.iconst 0, 1) := by decide +kernel
theorem dX6_bridges_11 : decode cX6_bridges 11 = .ok (.istore_n 2, 1) := by decide +kernel
theorem dX6_bridges_12 : decode cX6_bridges 12 = .ok (.iconst 0, 1) := by decide +kernel
theorem dX6_bridges_13 : decode cX6_bridges 13 = .ok (.istore_n 3, 1) := by decide +kernel
theorem dX6_bridges_14 : decode cX6_bridges 14 = .ok (.iload_n 3, 1) := by decide +kernel
theorem dX6_bridges_15 : decode cX6_bridges 15 = .ok (.aload_n 0, 1) := by decide +kernel
theorem dX6_bridges_16 : decode cX6_bridges 16 = .ok (.getfield 7, 3) := by decide +kernel
theorem dX6_bridges_19 : decode cX6_bridges 19 = .ok (.aload_n 0, 1) := by decide +kernel
theorem dX6_bridges_20 : decode cX6_bridges 20 = .ok (.getfield 7, 3) := by decide +kernel
theorem dX6_bridges_23 : decode cX6_bridges 23 = .ok (.imul, 1) := by decide +kernel
theorem dX6_bridges_24 : decode cX6_bridges 24 = .ok (.if_icmp .ge 83, 3) := by decide +kernel
theorem dX6_bridges_27 : decode cX6_bridges 27 = .ok (.iload_n 3, 1) := by decide +kernel
theorem dX6_bridges_28 : decode cX6_bridges 28 = .ok (.iconst 1, 1) := by decide +kernel
theorem dX6_bridges_29 : decode cX6_bridges 29 = .ok (.iadd, 1) := by decide +kernel
theorem dX6_bridges_30 : decode cX6_bridges 30 = .ok (.istore 4, 2) := by decide +kernel
theorem dX6_bridges_32 : decode cX6_bridges 32 = .ok (.iload 4, 2) := by decide +kernel
theorem dX6_bridges_34 : decode cX6_bridges 34 = .ok (.aload_n 0, 1) := by decide +kernel
theorem dX6_bridges_35 : decode cX6_bridges 35 = .ok (.getfield 7, 3) := by decide +kernel
theorem dX6_bridges_38 : decode cX6_bridges 38 = .ok (.aload_n 0, 1) := by decide +kernel
theorem dX6_bridges_39 : decode cX6_bridges 39 = .ok (.getfield 7, 3) := by decide +kernel
theorem dX6_bridges_42 : decode cX6_bridges 42 = .ok (.imul, 1) := by decide +kernel
theorem dX6_bridges_43 : decode cX6_bridges 43 = .ok (.if_icmp .ge 58, 3) := by decide +kernel
theorem dX6_bridges_46 : decode cX6_bridges 46 = .ok (.iload_n 2, 1) := by decide +kernel
theorem dX6_bridges_47 : decode cX6_bridges 47 = .ok (.aload_n 0, 1) := by decide +kernel
theorem dX6_bridges_48 : decode cX6_bridges 48 = .ok (.iload_n 1, 1) := by decide +kernel
theorem dX6_bridges_49 : decode cX6_bridges 49 = .ok (.invokevirtual 139, 3) := by decide +kernel
theorem dX6_bridges_52 : decode cX6_bridges 52 = .ok (.iload_n 3, 1) := by decide +kernel
theorem dX6_bridges_53 : decode cX6_bridges 53 = .ok (.invokestatic 85, 3) := by decide +kernel
theorem dX6_bridges_56 : decode cX6_bridges 56 = .ok (.ifCond .eq 36, 3) := by decide +kernel
theorem dX6_bridges_59 : decode cX6_bridges 59 = .ok (.aload_n 0, 1) := by decide +kernel
theorem dX6_bridges_60 : decode cX6_bridges 60 = .ok (.iload_n 1, 1) := by decide +kernel
theorem dX6_bridges_61 : decode cX6_bridges 61 = .ok (.invokevirtual 139, 3) := by decide +kernel
theorem dX6_bridges_64 : decode cX6_bridges 64 = .ok (.iload 4, 2) := by decide +kernel
theorem dX6_bridges_66 : decode cX6_bridges 66 = .ok (.invokestatic 85, 3) := by decide +kernel
theorem dX6_bridges_69 : decode cX6_bridges 69 = .ok (.ifCond .eq 23, 3) := by decide +kernel
theorem dX6_bridges_72 : decode cX6_bridges 72 = .ok (.aload_n 0, 1) := by decide +kernel
theorem dX6_bridges_73 : decode cX6_bridges 73 = .ok (.iload_n 3, 1) := by decide +kernel
theorem dX6_bridges_74 : decode cX6_bridges 74 = .ok (.iload 4, 2) := by decide +kernel
theorem dX6_bridges_76 : decode cX6_bridges 76 = .ok (.aload_n 0, 1) := by decide +kernel
theorem dX6_bridges_77 : decode cX6_bridges 77 = .ok (.invokevirtual 126, 3) := by decide +kernel
theorem dX6_bridges_80 : decode cX6_bridges 80 = .ok (.invokevirtual 167, 3) := by decide +kernel
theorem dX6_bridges_83 : decode cX6_bridges 83 = .ok (.lconst 0, 1) := by decide +kernel
theorem dX6_bridges_84 : decode cX6_bridges 84 = .ok (.lcmp, 1) := by decide +kernel
theorem dX6_bridges_85 : decode cX6_bridges 85 = .ok (.ifCond .eq 7, 3) := by decide +kernel
theorem dX6_bridges_88 : decode cX6_bridges 88 = .ok (.iconst 1, 1) := by decide +kernel
theorem dX6_bridges_89 : decode cX6_bridges 89 = .ok (.goto 4, 3) := by decide +kernel
theorem dX6_bridges_92 : decode cX6_bridges 92 = .ok (.iconst 0, 1) := by decide +kernel
theorem dX6_bridges_93 : decode cX6_bridges 93 = .ok (.iadd, 1) := by decide +kernel
theorem dX6_bridges_94 : decode cX6_bridges 94 = .ok (.istore_n 2, 1) := by decide +kernel
theorem dX6_bridges_95 : decode cX6_bridges 95 = .ok (.iinc 4 1, 3) := by decide +kernel
theorem dX6_bridges_98 : decode cX6_bridges 98 = .ok (.goto (-66), 3) := by decide +kernel
theorem dX6_bridges_101 : decode cX6_bridges 101 = .ok (.iinc 3 1, 3) := by decide +kernel
theorem dX6_bridges_104 : decode cX6_bridges 104 = .ok (.goto (-90), 3) := by decide +kernel
theorem dX6_bridges_107 : decode cX6_bridges 107 = .ok (.iload_n 2, 1) := by decide +kernel
theorem dX6_bridges_108 : decode cX6_bridges 108 = .ok (.ireturn, 1) := by decide +kernel
theorem dX6_bridge_0 : decode cX6_bridge 0 = .ok (.iload_n 1, 1) := by decide +kernel
theorem dX6_bridge_1 : decode cX6_bridge 1 = .ok (.invokestatic 136, 3) := by decide +kernel
theorem dX6_bridge_4 : decode cX6_bridge 4 = .ok (.ifCond .eq 18, 3) := by decide +kernel
theorem dX6_bridge_7 : decode cX6_bridge 7 = .ok (.iload_n 2, 1) := by decide +kernel
theorem dX6_bridge_8 : decode cX6_bridge 8 = .ok (.iconst 0, 1) := by decide +kernel
theorem dX6_bridge_9 : decode cX6_bridge 9 = .ok (.aload_n 0, 1) := by decide +kernel
theorem dX6_bridge_10 : decode cX6_bridge 10 = .ok (.iload_n 1, 1) := by decide +kernel
theorem dX6_bridge_11 : decode cX6_bridge 11 = .ok (.invokevirtual 171, 3) := by decide +kernel
theorem dX6_bridge_14 : decode cX6_bridge 14 = .ok (.iconst 1, 1) := by decide +kernel
theorem dX6_bridge_15 : decode cX6_bridge 15 = .ok (.isub, 1) := by decide +kernel
theorem dX6_bridge_16 : decode cX6_bridge 16 = .ok (.invokestatic 64, 3) := by decide +kernel
theorem dX6_bridge_19 : decode cX6_bridge 19 = .ok (.ifCond .ne 6, 3) := by decide +kernel
theorem dX6_bridge_22 : decode cX6_bridge 22 = .ok (.bipush (-11), 2) := by decide +kernel
theorem dX6_bridge_24 : decode cX6_bridge 24 = .ok (.ireturn, 1) := by decide +kernel
theorem dX6_bridge_25 : decode cX6_bridge 25 = .ok (.iload_n 3, 1) := by decide +kernel
theorem dX6_bridge_26 : decode cX6_bridge 26 = .ok (.iconst 0, 1) := by decide +kernel
theorem dX6_bridge_27 : decode cX6_bridge 27 = .ok (.iconst 3, 1) := by decide +kernel
theorem dX6_bridge_28 : decode cX6_bridge 28 = .ok (.invokestatic 64, 3) := by decide +kernel
theorem dX6_bridge_31 : decode cX6_bridge 31 = .ok (.ifCond .ne 6, 3) := by decide +kernel
theorem dX6_bridge_34 : decode cX6_bridge 34 = .ok (.bipush (-12), 2) := by decide +kernel
theorem dX6_bridge_36 : decode cX6_bridge 36 = .ok (.ireturn, 1) := by decide +kernel
theorem dX6_bridge_37 : decode cX6_bridge 37 = .ok (.iload_n 2, 1) := by decide +kernel
theorem dX6_bridge_38 : decode cX6_bridge 38 = .ok (.istore 4, 2) := by decide +kernel
theorem dX6_bridge_40 : decode cX6_bridge 40 = .ok (.iconst 0, 1) := by decide +kernel
theorem dX6_bridge_41 : decode cX6_bridge 41 = .ok (.istore 5, 2) := by decide +kernel
theorem dX6_bridge_43 : decode cX6_bridge 43 = .ok (.iload 5, 2) := by decide +kernel
theorem dX6_bridge_45 : decode cX6_bridge 45 = .ok (.aload_n 0, 1) := by decide +kernel
theorem dX6_bridge_46 : decode cX6_bridge 46 = .ok (.getfield 7, 3) := by decide +kernel
theorem dX6_bridge_49 : decode cX6_bridge 49 = .ok (.aload_n 0, 1) := by decide +kernel
theorem dX6_bridge_50 : decode cX6_bridge 50 = .ok (.getfield 7, 3) := by decide +kernel
theorem dX6_bridge_53 : decode cX6_bridge 53 = .ok (.imul, 1) := by decide +kernel
theorem dX6_bridge_54 : decode cX6_bridge 54 = .ok (.if_icmp .ge 159, 3) := by decide +kernel
theorem dX6_bridge_57 : decode cX6_bridge 57 = .ok (.iload 5, 2) := by decide +kernel
theorem dX6_bridge_59 : decode cX6_bridge 59 = .ok (.iconst 1, 1) := by decide +kernel
theorem dX6_bridge_60 : decode cX6_bridge 60 = .ok (.iadd, 1) := by decide +kernel
theorem dX6_bridge_61 : decode cX6_bridge 61 = .ok (.istore 6, 2) := by decide +kernel
theorem dX6_bridge_63 : decode cX6_bridge 63 = .ok (.iload 6, 2) := by decide +kernel
theorem dX6_bridge_65 : decode cX6_bridge 65 = .ok (.aload_n 0, 1) := by decide +kernel
theorem dX6_bridge_66 : decode cX6_bridge 66 = .ok (.getfield 7, 3) := by decide +kernel
theorem dX6_bridge_69 : decode cX6_bridge 69 = .ok (.aload_n 0, 1) := by decide +kernel
theorem dX6_bridge_70 : decode cX6_bridge 70 = .ok (.getfield 7, 3) := by decide +kernel
theorem dX6_bridge_73 : decode cX6_bridge 73 = .ok (.imul, 1) := by decide +kernel
theorem dX6_bridge_74 : decode cX6_bridge 74 = .ok (.if_icmp .ge 133, 3) := by decide +kernel
theorem dX6_bridge_77 : decode cX6_bridge 77 = .ok (.aload_n 0, 1) := by decide +kernel
theorem dX6_bridge_78 : decode cX6_bridge 78 = .ok (.iload_n 1, 1) := by decide +kernel
theorem dX6_bridge_79 : decode cX6_bridge 79 = .ok (.invokevirtual 139, 3) := by decide +kernel
theorem dX6_bridge_82 : decode cX6_bridge 82 = .ok (.iload 5, 2) := by decide +kernel
theorem dX6_bridge_84 : decode cX6_bridge 84 = .ok (.invokestatic 85, 3) := by decide +kernel
theorem dX6_bridge_87 : decode cX6_bridge 87 = .ok (.ifCond .eq 31, 3) := by decide +kernel
theorem dX6_bridge_90 : decode cX6_bridge 90 = .ok (.aload_n 0, 1) := by decide +kernel
theorem dX6_bridge_91 : decode cX6_bridge 91 = .ok (.iload_n 1, 1) := by decide +kernel
theorem dX6_bridge_92 : decode cX6_bridge 92 = .ok (.invokevirtual 139, 3) := by decide +kernel
theorem dX6_bridge_95 : decode cX6_bridge 95 = .ok (.iload 6, 2) := by decide +kernel
theorem dX6_bridge_97 : decode cX6_bridge 97 = .ok (.invokestatic 85, 3) := by decide +kernel
theorem dX6_bridge_100 : decode cX6_bridge 100 = .ok (.ifCond .eq 18, 3) := by decide +kernel
theorem dX6_bridge_103 : decode cX6_bridge 103 = .ok (.aload_n 0, 1) := by decide +kernel
theorem dX6_bridge_104 : decode cX6_bridge 104 = .ok (.iload 5, 2) := by decide +kernel
theorem dX6_bridge_106 : decode cX6_bridge 106 = .ok (.iload 6, 2) := by decide +kernel
theorem dX6_bridge_108 : decode cX6_bridge 108 = .ok (.aload_n 0, 1) := by decide +kernel
theorem dX6_bridge_109 : decode cX6_bridge 109 = .ok (.invokevirtual 126, 3) := by decide +kernel
theorem dX6_bridge_112 : decode cX6_bridge 112 = .ok (.invokevirtual 167, 3) := by decide +kernel
theorem dX6_bridge_115 : decode cX6_bridge 115 = .ok (.goto 4, 3) := by decide +kernel
theorem dX6_bridge_118 : decode cX6_bridge 118 = .ok (.lconst 0, 1) := by decide +kernel
theorem dX6_bridge_119 : decode cX6_bridge 119 = .ok (.lstore 7, 2) := by decide +kernel
theorem dX6_bridge_121 : decode cX6_bridge 121 = .ok (.lload 7, 2) := by decide +kernel
theorem dX6_bridge_123 : decode cX6_bridge 123 = .ok (.lconst 0, 1) := by decide +kernel
theorem dX6_bridge_124 : decode cX6_bridge 124 = .ok (.lcmp, 1) := by decide +kernel
theorem dX6_bridge_125 : decode cX6_bridge 125 = .ok (.ifCond .eq 59, 3) := by decide +kernel
theorem dX6_bridge_128 : decode cX6_bridge 128 = .ok (.iload 4, 2) := by decide +kernel
theorem dX6_bridge_130 : decode cX6_bridge 130 = .ok (.ifCond .ne 54, 3) := by decide +kernel
theorem dX6_bridge_133 : decode cX6_bridge 133 = .ok (.lload 7, 2) := by decide +kernel
theorem dX6_bridge_135 : decode cX6_bridge 135 = .ok (.invokestatic 144, 3) := by decide +kernel
theorem dX6_bridge_138 : decode cX6_bridge 138 = .ok (.istore 9, 2) := by decide +kernel
theorem dX6_bridge_140 : decode cX6_bridge 140 = .ok (.iload_n 3, 1) := by decide +kernel
theorem dX6_bridge_141 : decode cX6_bridge 141 = .ok (.ifCond .ne 8, 3) := by decide +kernel
theorem dX6_bridge_144 : decode cX6_bridge 144 = .ok (.iload 5, 2) := by decide +kernel
theorem dX6_bridge_146 : decode cX6_bridge 146 = .ok (.goto 37, 3) := by decide +kernel
theorem dX6_bridge_149 : decode cX6_bridge 149 = .ok (.iload_n 3, 1) := by decide +kernel
theorem dX6_bridge_150 : decode cX6_bridge 150 = .ok (.iconst 1, 1) := by decide +kernel
theorem dX6_bridge_151 : decode cX6_bridge 151 = .ok (.if_icmp .ne 8, 3) := by decide +kernel
theorem dX6_bridge_154 : decode cX6_bridge 154 = .ok (.iload 6, 2) := by decide +kernel
theorem dX6_bridge_156 : decode cX6_bridge 156 = .ok (.goto 27, 3) := by decide +kernel
theorem dX6_bridge_159 : decode cX6_bridge 159 = .ok (.iload_n 3, 1) := by decide +kernel
theorem dX6_bridge_160 : decode cX6_bridge 160 = .ok (.iconst 2, 1) := by decide +kernel
theorem dX6_bridge_161 : decode cX6_bridge 161 = .ok (.if_icmp .ne 8, 3) := by decide +kernel
theorem dX6_bridge_164 : decode cX6_bridge 164 = .ok (.iload 9, 2) := by decide +kernel
theorem dX6_bridge_166 : decode cX6_bridge 166 = .ok (.goto 17, 3) := by decide +kernel
theorem dX6_bridge_169 : decode cX6_bridge 169 = .ok (.lload 7, 2) := by decide +kernel
theorem dX6_bridge_171 : decode cX6_bridge 171 = .ok (.lconst 1, 1) := by decide +kernel
theorem dX6_bridge_172 : decode cX6_bridge 172 = .ok (.iload 9, 2) := by decide +kernel
theorem dX6_bridge_174 : decode cX6_bridge 174 = .ok (.lshl, 1) := by decide +kernel
theorem dX6_bridge_175 : decode cX6_bridge 175 = .ok (.ldc2_w 80, 3) := by decide +kernel
theorem dX6_bridge_178 : decode cX6_bridge 178 = .ok (.lxor, 1) := by decide +kernel
theorem dX6_bridge_179 : decode cX6_bridge 179 = .ok (.land, 1) := by decide +kernel
theorem dX6_bridge_180 : decode cX6_bridge 180 = .ok (.invokestatic 144, 3) := by decide +kernel
theorem dX6_bridge_183 : decode cX6_bridge 183 = .ok (.ireturn, 1) := by decide +kernel
theorem dX6_bridge_184 : decode cX6_bridge 184 = .ok (.iload 4, 2) := by decide +kernel
theorem dX6_bridge_186 : decode cX6_bridge 186 = .ok (.lload 7, 2) := by decide +kernel
theorem dX6_bridge_188 : decode cX6_bridge 188 = .ok (.lconst 0, 1) := by decide +kernel
theorem dX6_bridge_189 : decode cX6_bridge 189 = .ok (.lcmp, 1) := by decide +kernel
theorem dX6_bridge_190 : decode cX6_bridge 190 = .ok (.ifCond .eq 7, 3) := by decide +kernel
theorem dX6_bridge_193 : decode cX6_bridge 193 = .ok (.iconst 1, 1) := by decide +kernel
theorem dX6_bridge_194 : decode cX6_bridge 194 = .ok (.goto 4, 3) := by decide +kernel
theorem dX6_bridge_197 : decode cX6_bridge 197 = .ok (.iconst 0, 1) := by decide +kernel
theorem dX6_bridge_198 : decode cX6_bridge 198 = .ok (.isub, 1) := by decide +kernel
theorem dX6_bridge_199 : decode cX6_bridge 199 = .ok (.istore 4, 2) := by decide +kernel
theorem dX6_bridge_201 : decode cX6_bridge 201 = .ok (.iinc 6 1, 3) := by decide +kernel
theorem dX6_bridge_204 : decode cX6_bridge 204 = .ok (.goto (-141), 3) := by decide +kernel
theorem dX6_bridge_207 : decode cX6_bridge 207 = .ok (.iinc 5 1, 3) := by decide +kernel
theorem dX6_bridge_210 : decode cX6_bridge 210 = .ok (.goto (-167), 3) := by decide +kernel
theorem dX6_bridge_213 : decode cX6_bridge 213 = .ok (.bipush (-11), 2) := by decide +kernel
theorem dX6_bridge_215 : decode cX6_bridge 215 = .ok (.ireturn, 1) := by decide +kernel
theorem dX6_answersNow_0 : decode cX6_answersNow 0 = .ok (.aload_n 0, 1) := by decide +kernel
theorem dX6_answersNow_1 : decode cX6_answersNow 1 = .ok (.getfield 109, 3) := by decide +kernel
theorem dX6_answersNow_4 : decode cX6_answersNow 4 = .ok (.ifCond .eq 19, 3) := by decide +kernel
theorem dX6_answersNow_7 : decode cX6_answersNow 7 = .ok (.aload_n 0, 1) := by decide +kernel
theorem dX6_answersNow_8 : decode cX6_answersNow 8 = .ok (.getfield 13, 3) := by decide +kernel
theorem dX6_answersNow_11 : decode cX6_answersNow 11 = .ok (.aload_n 0, 1) := by decide +kernel
theorem dX6_answersNow_12 : decode cX6_answersNow 12 = .ok (.getfield 109, 3) := by decide +kernel
theorem dX6_answersNow_15 : decode cX6_answersNow 15 = .ok (.iconst 1, 1) := by decide +kernel
theorem dX6_answersNow_16 : decode cX6_answersNow 16 = .ok (.isub, 1) := by decide +kernel
theorem dX6_answersNow_17 : decode cX6_answersNow 17 = .ok (.iaload, 1) := by decide +kernel
theorem dX6_answersNow_18 : decode cX6_answersNow 18 = .ok (.bipush (-16), 2) := by decide +kernel
theorem dX6_answersNow_20 : decode cX6_answersNow 20 = .ok (.if_icmp .ne 5, 3) := by decide +kernel
theorem dX6_answersNow_23 : decode cX6_answersNow 23 = .ok (.lconst 0, 1) := by decide +kernel
theorem dX6_answersNow_24 : decode cX6_answersNow 24 = .ok (.lreturn, 1) := by decide +kernel
theorem dX6_answersNow_25 : decode cX6_answersNow 25 = .ok (.aload_n 0, 1) := by decide +kernel
theorem dX6_answersNow_26 : decode cX6_answersNow 26 = .ok (.getfield 13, 3) := by decide +kernel
theorem dX6_answersNow_29 : decode cX6_answersNow 29 = .ok (.aload_n 0, 1) := by decide +kernel
theorem dX6_answersNow_30 : decode cX6_answersNow 30 = .ok (.getfield 109, 3) := by decide +kernel
theorem dX6_answersNow_33 : decode cX6_answersNow 33 = .ok (.iconst 1, 1) := by decide +kernel
theorem dX6_answersNow_34 : decode cX6_answersNow 34 = .ok (.isub, 1) := by decide +kernel
theorem dX6_answersNow_35 : decode cX6_answersNow 35 = .ok (.iaload, 1) := by decide +kernel
theorem dX6_answersNow_36 : decode cX6_answersNow 36 = .ok (.istore_n 1, 1) := by decide +kernel
theorem dX6_answersNow_37 : decode cX6_answersNow 37 = .ok (.aload_n 0, 1) := by decide +kernel
theorem dX6_answersNow_38 : decode cX6_answersNow 38 = .ok (.aload_n 0, 1) := by decide +kernel
theorem dX6_answersNow_39 : decode cX6_answersNow 39 = .ok (.getfield 109, 3) := by decide +kernel
theorem dX6_answersNow_42 : decode cX6_answersNow 42 = .ok (.iconst 2, 1) := by decide +kernel
theorem dX6_answersNow_43 : decode cX6_answersNow 43 = .ok (.irem, 1) := by decide +kernel
theorem dX6_answersNow_44 : decode cX6_answersNow 44 = .ok (.invokevirtual 139, 3) := by decide +kernel
theorem dX6_answersNow_47 : decode cX6_answersNow 47 = .ok (.lstore_n 2, 1) := by decide +kernel
theorem dX6_answersNow_48 : decode cX6_answersNow 48 = .ok (.aload_n 0, 1) := by decide +kernel
theorem dX6_answersNow_49 : decode cX6_answersNow 49 = .ok (.invokevirtual 126, 3) := by decide +kernel
theorem dX6_answersNow_52 : decode cX6_answersNow 52 = .ok (.lconst 1, 1) := by decide +kernel
theorem dX6_answersNow_53 : decode cX6_answersNow 53 = .ok (.iload_n 1, 1) := by decide +kernel
theorem dX6_answersNow_54 : decode cX6_answersNow 54 = .ok (.lshl, 1) := by decide +kernel
theorem dX6_answersNow_55 : decode cX6_answersNow 55 = .ok (.lor, 1) := by decide +kernel
theorem dX6_answersNow_56 : decode cX6_answersNow 56 = .ok (.lstore 4, 2) := by decide +kernel
theorem dX6_answersNow_58 : decode cX6_answersNow 58 = .ok (.lconst 0, 1) := by decide +kernel
theorem dX6_answersNow_59 : decode cX6_answersNow 59 = .ok (.lstore 6, 2) := by decide +kernel
theorem dX6_answersNow_61 : decode cX6_answersNow 61 = .ok (.iconst 0, 1) := by decide +kernel
theorem dX6_answersNow_62 : decode cX6_answersNow 62 = .ok (.istore 8, 2) := by decide +kernel
theorem dX6_answersNow_64 : decode cX6_answersNow 64 = .ok (.iload 8, 2) := by decide +kernel
theorem dX6_answersNow_66 : decode cX6_answersNow 66 = .ok (.aload_n 0, 1) := by decide +kernel
theorem dX6_answersNow_67 : decode cX6_answersNow 67 = .ok (.getfield 7, 3) := by decide +kernel
theorem dX6_answersNow_70 : decode cX6_answersNow 70 = .ok (.aload_n 0, 1) := by decide +kernel
theorem dX6_answersNow_71 : decode cX6_answersNow 71 = .ok (.getfield 7, 3) := by decide +kernel
theorem dX6_answersNow_74 : decode cX6_answersNow 74 = .ok (.imul, 1) := by decide +kernel
theorem dX6_answersNow_75 : decode cX6_answersNow 75 = .ok (.if_icmp .ge 97, 3) := by decide +kernel
theorem dX6_answersNow_78 : decode cX6_answersNow 78 = .ok (.iload 8, 2) := by decide +kernel
theorem dX6_answersNow_80 : decode cX6_answersNow 80 = .ok (.iconst 1, 1) := by decide +kernel
theorem dX6_answersNow_81 : decode cX6_answersNow 81 = .ok (.iadd, 1) := by decide +kernel
theorem dX6_answersNow_82 : decode cX6_answersNow 82 = .ok (.istore 9, 2) := by decide +kernel
theorem dX6_answersNow_84 : decode cX6_answersNow 84 = .ok (.iload 9, 2) := by decide +kernel
theorem dX6_answersNow_86 : decode cX6_answersNow 86 = .ok (.aload_n 0, 1) := by decide +kernel
theorem dX6_answersNow_87 : decode cX6_answersNow 87 = .ok (.getfield 7, 3) := by decide +kernel
theorem dX6_answersNow_90 : decode cX6_answersNow 90 = .ok (.aload_n 0, 1) := by decide +kernel
theorem dX6_answersNow_91 : decode cX6_answersNow 91 = .ok (.getfield 7, 3) := by decide +kernel
theorem dX6_answersNow_94 : decode cX6_answersNow 94 = .ok (.imul, 1) := by decide +kernel
theorem dX6_answersNow_95 : decode cX6_answersNow 95 = .ok (.if_icmp .ge 71, 3) := by decide +kernel
theorem dX6_answersNow_98 : decode cX6_answersNow 98 = .ok (.lload_n 2, 1) := by decide +kernel
theorem dX6_answersNow_99 : decode cX6_answersNow 99 = .ok (.iload 8, 2) := by decide +kernel
theorem dX6_answersNow_101 : decode cX6_answersNow 101 = .ok (.invokestatic 85, 3) := by decide +kernel
theorem dX6_answersNow_104 : decode cX6_answersNow 104 = .ok (.ifCond .eq 25, 3) := by decide +kernel
theorem dX6_answersNow_107 : decode cX6_answersNow 107 = .ok (.lload_n 2, 1) := by decide +kernel
theorem dX6_answersNow_108 : decode cX6_answersNow 108 = .ok (.iload 9, 2) := by decide +kernel
theorem dX6_answersNow_110 : decode cX6_answersNow 110 = .ok (.invokestatic 85, 3) := by decide +kernel
theorem dX6_answersNow_113 : decode cX6_answersNow 113 = .ok (.ifCond .eq 16, 3) := by decide +kernel
theorem dX6_answersNow_116 : decode cX6_answersNow 116 = .ok (.aload_n 0, 1) := by decide +kernel
theorem dX6_answersNow_117 : decode cX6_answersNow 117 = .ok (.iload 8, 2) := by decide +kernel
theorem dX6_answersNow_119 : decode cX6_answersNow 119 = .ok (.iload 9, 2) := by decide +kernel
theorem dX6_answersNow_121 : decode cX6_answersNow 121 = .ok (.lload 4, 2) := by decide +kernel
theorem dX6_answersNow_123 : decode cX6_answersNow 123 = .ok (.invokevirtual 167, 3) := by decide +kernel
theorem dX6_answersNow_126 : decode cX6_answersNow 126 = .ok (.goto 4, 3) := by decide +kernel
theorem dX6_answersNow_129 : decode cX6_answersNow 129 = .ok (.lconst 0, 1) := by decide +kernel
theorem dX6_answersNow_130 : decode cX6_answersNow 130 = .ok (.lstore 10, 2) := by decide +kernel
theorem dX6_answersNow_132 : decode cX6_answersNow 132 = .ok (.lload 6, 2) := by decide +kernel
theorem dX6_answersNow_134 : decode cX6_answersNow 134 = .ok (.lload 10, 2) := by decide +kernel
theorem dX6_answersNow_136 : decode cX6_answersNow 136 = .ok (.iload_n 1, 1) := by decide +kernel
theorem dX6_answersNow_137 : decode cX6_answersNow 137 = .ok (.invokestatic 85, 3) := by decide +kernel
theorem dX6_answersNow_140 : decode cX6_answersNow 140 = .ok (.ifCond .eq 16, 3) := by decide +kernel
theorem dX6_answersNow_143 : decode cX6_answersNow 143 = .ok (.lload 10, 2) := by decide +kernel
theorem dX6_answersNow_145 : decode cX6_answersNow 145 = .ok (.lconst 1, 1) := by decide +kernel
theorem dX6_answersNow_146 : decode cX6_answersNow 146 = .ok (.iload_n 1, 1) := by decide +kernel
theorem dX6_answersNow_147 : decode cX6_answersNow 147 = .ok (.lshl, 1) := by decide +kernel
theorem dX6_answersNow_148 : decode cX6_answersNow 148 = .ok (.ldc2_w 80, 3) := by decide +kernel
theorem dX6_answersNow_151 : decode cX6_answersNow 151 = .ok (.lxor, 1) := by decide +kernel
theorem dX6_answersNow_152 : decode cX6_answersNow 152 = .ok (.land, 1) := by decide +kernel
theorem dX6_answersNow_153 : decode cX6_answersNow 153 = .ok (.goto 4, 3) := by decide +kernel
theorem dX6_answersNow_156 : decode cX6_answersNow 156 = .ok (.lconst 0, 1) := by decide +kernel
theorem dX6_answersNow_157 : decode cX6_answersNow 157 = .ok (.lor, 1) := by decide +kernel
theorem dX6_answersNow_158 : decode cX6_answersNow 158 = .ok (.lstore 6, 2) := by decide +kernel
theorem dX6_answersNow_160 : decode cX6_answersNow 160 = .ok (.iinc 9 1, 3) := by decide +kernel
theorem dX6_answersNow_163 : decode cX6_answersNow 163 = .ok (.goto (-79), 3) := by decide +kernel
theorem dX6_answersNow_166 : decode cX6_answersNow 166 = .ok (.iinc 8 1, 3) := by decide +kernel
theorem dX6_answersNow_169 : decode cX6_answersNow 169 = .ok (.goto (-105), 3) := by decide +kernel
theorem dX6_answersNow_172 : decode cX6_answersNow 172 = .ok (.lload 6, 2) := by decide +kernel
theorem dX6_answersNow_174 : decode cX6_answersNow 174 = .ok (.lreturn, 1) := by decide +kernel
theorem dX6_answers_0 : decode cX6_answers 0 = .ok (.aload_n 0, 1) := by decide +kernel
theorem dX6_answers_1 : decode cX6_answers 1 = .ok (.invokevirtual 174, 3) := by decide +kernel
theorem dX6_answers_4 : decode cX6_answers 4 = .ok (.lreturn, 1) := by decide +kernel
theorem dX6_findHoles_0 : decode cX6_findHoles 0 = .ok (.aload_n 0, 1) := by decide +kernel
theorem dX6_findHoles_1 : decode cX6_findHoles 1 = .ok (.iconst 0, 1) := by decide +kernel
theorem dX6_findHoles_2 : decode cX6_findHoles 2 = .ok (.putfield 177, 3) := by decide +kernel
theorem dX6_findHoles_5 : decode cX6_findHoles 5 = .ok (.iconst 0, 1) := by decide +kernel
theorem dX6_findHoles_6 : decode cX6_findHoles 6 = .ok (.istore_n 3, 1) := by decide +kernel
theorem dX6_findHoles_7 : decode cX6_findHoles 7 = .ok (.iload_n 3, 1) := by decide +kernel
theorem dX6_findHoles_8 : decode cX6_findHoles 8 = .ok (.aload_n 0, 1) := by decide +kernel
theorem dX6_findHoles_9 : decode cX6_findHoles 9 = .ok (.getfield 7, 3) := by decide +kernel
theorem dX6_findHoles_12 : decode cX6_findHoles 12 = .ok (.aload_n 0, 1) := by decide +kernel
theorem dX6_findHoles_13 : decode cX6_findHoles 13 = .ok (.getfield 7, 3) := by decide +kernel
theorem dX6_findHoles_16 : decode cX6_findHoles 16 = .ok (.imul, 1) := by decide +kernel
theorem dX6_findHoles_17 : decode cX6_findHoles 17 = .ok (.if_icmp .ge 37, 3) := by decide +kernel
theorem dX6_findHoles_20 : decode cX6_findHoles 20 = .ok (.lload_n 1, 1) := by decide +kernel
theorem dX6_findHoles_21 : decode cX6_findHoles 21 = .ok (.iload_n 3, 1) := by decide +kernel
theorem dX6_findHoles_22 : decode cX6_findHoles 22 = .ok (.invokestatic 85, 3) := by decide +kernel
theorem dX6_findHoles_25 : decode cX6_findHoles 25 = .ok (.ifCond .eq 23, 3) := by decide +kernel
theorem dX6_findHoles_28 : decode cX6_findHoles 28 = .ok (.aload_n 0, 1) := by decide +kernel
theorem dX6_findHoles_29 : decode cX6_findHoles 29 = .ok (.getfield 43, 3) := by decide +kernel
theorem dX6_findHoles_32 : decode cX6_findHoles 32 = .ok (.aload_n 0, 1) := by decide +kernel
theorem dX6_findHoles_33 : decode cX6_findHoles 33 = .ok (.getfield 177, 3) := by decide +kernel
theorem dX6_findHoles_36 : decode cX6_findHoles 36 = .ok (.iload_n 3, 1) := by decide +kernel
theorem dX6_findHoles_37 : decode cX6_findHoles 37 = .ok (.iastore, 1) := by decide +kernel
theorem dX6_findHoles_38 : decode cX6_findHoles 38 = .ok (.aload_n 0, 1) := by decide +kernel
theorem dX6_findHoles_39 : decode cX6_findHoles 39 = .ok (.dup, 1) := by decide +kernel
theorem dX6_findHoles_40 : decode cX6_findHoles 40 = .ok (.getfield 177, 3) := by decide +kernel
theorem dX6_findHoles_43 : decode cX6_findHoles 43 = .ok (.iconst 1, 1) := by decide +kernel
theorem dX6_findHoles_44 : decode cX6_findHoles 44 = .ok (.iadd, 1) := by decide +kernel
theorem dX6_findHoles_45 : decode cX6_findHoles 45 = .ok (.putfield 177, 3) := by decide +kernel
theorem dX6_findHoles_48 : decode cX6_findHoles 48 = .ok (.iinc 3 1, 3) := by decide +kernel
theorem dX6_findHoles_51 : decode cX6_findHoles 51 = .ok (.goto (-44), 3) := by decide +kernel
theorem dX6_findHoles_54 : decode cX6_findHoles 54 = .ok (.return_, 1) := by decide +kernel
theorem dX6_fills_0 : decode cX6_fills 0 = .ok (.aload_n 0, 1) := by decide +kernel
theorem dX6_fills_1 : decode cX6_fills 1 = .ok (.aload_n 0, 1) := by decide +kernel
theorem dX6_fills_2 : decode cX6_fills 2 = .ok (.invokevirtual 126, 3) := by decide +kernel
theorem dX6_fills_5 : decode cX6_fills 5 = .ok (.invokevirtual 180, 3) := by decide +kernel
theorem dX6_fills_8 : decode cX6_fills 8 = .ok (.aload_n 0, 1) := by decide +kernel
theorem dX6_fills_9 : decode cX6_fills 9 = .ok (.getfield 177, 3) := by decide +kernel
theorem dX6_fills_12 : decode cX6_fills 12 = .ok (.bipush 12, 2) := by decide +kernel
theorem dX6_fills_14 : decode cX6_fills 14 = .ok (.if_icmp .le 5, 3) := by decide +kernel
theorem dX6_fills_17 : decode cX6_fills 17 = .ok (.iconst 0, 1) := by decide +kernel
theorem dX6_fills_18 : decode cX6_fills 18 = .ok (.ireturn, 1) := by decide +kernel
theorem dX6_fills_19 : decode cX6_fills 19 = .ok (.iconst 0, 1) := by decide +kernel
theorem dX6_fills_20 : decode cX6_fills 20 = .ok (.istore_n 1, 1) := by decide +kernel
theorem dX6_fills_21 : decode cX6_fills 21 = .ok (.iload_n 1, 1) := by decide +kernel
theorem dX6_fills_22 : decode cX6_fills 22 = .ok (.iconst 1, 1) := by decide +kernel
theorem dX6_fills_23 : decode cX6_fills 23 = .ok (.aload_n 0, 1) := by decide +kernel
theorem dX6_fills_24 : decode cX6_fills 24 = .ok (.getfield 177, 3) := by decide +kernel
theorem dX6_fills_27 : decode cX6_fills 27 = .ok (.ishl, 1) := by decide +kernel
theorem dX6_fills_28 : decode cX6_fills 28 = .ok (.if_icmp .ge 70, 3) := by decide +kernel
theorem dX6_fills_31 : decode cX6_fills 31 = .ok (.aload_n 0, 1) := by decide +kernel
theorem dX6_fills_32 : decode cX6_fills 32 = .ok (.getfield 76, 3) := by decide +kernel
theorem dX6_fills_35 : decode cX6_fills 35 = .ok (.lstore_n 2, 1) := by decide +kernel
theorem dX6_fills_36 : decode cX6_fills 36 = .ok (.iconst 0, 1) := by decide +kernel
theorem dX6_fills_37 : decode cX6_fills 37 = .ok (.istore 4, 2) := by decide +kernel
theorem dX6_fills_39 : decode cX6_fills 39 = .ok (.iload 4, 2) := by decide +kernel
theorem dX6_fills_41 : decode cX6_fills 41 = .ok (.aload_n 0, 1) := by decide +kernel
theorem dX6_fills_42 : decode cX6_fills 42 = .ok (.getfield 177, 3) := by decide +kernel
theorem dX6_fills_45 : decode cX6_fills 45 = .ok (.if_icmp .ge 35, 3) := by decide +kernel
theorem dX6_fills_48 : decode cX6_fills 48 = .ok (.lload_n 2, 1) := by decide +kernel
theorem dX6_fills_49 : decode cX6_fills 49 = .ok (.iload_n 1, 1) := by decide +kernel
theorem dX6_fills_50 : decode cX6_fills 50 = .ok (.iload 4, 2) := by decide +kernel
theorem dX6_fills_52 : decode cX6_fills 52 = .ok (.ishr, 1) := by decide +kernel
theorem dX6_fills_53 : decode cX6_fills 53 = .ok (.iconst 1, 1) := by decide +kernel
theorem dX6_fills_54 : decode cX6_fills 54 = .ok (.iand, 1) := by decide +kernel
theorem dX6_fills_55 : decode cX6_fills 55 = .ok (.iconst 1, 1) := by decide +kernel
theorem dX6_fills_56 : decode cX6_fills 56 = .ok (.if_icmp .ne 15, 3) := by decide +kernel
theorem dX6_fills_59 : decode cX6_fills 59 = .ok (.lconst 1, 1) := by decide +kernel
theorem dX6_fills_60 : decode cX6_fills 60 = .ok (.aload_n 0, 1) := by decide +kernel
theorem dX6_fills_61 : decode cX6_fills 61 = .ok (.getfield 43, 3) := by decide +kernel
theorem dX6_fills_64 : decode cX6_fills 64 = .ok (.iload 4, 2) := by decide +kernel
theorem dX6_fills_66 : decode cX6_fills 66 = .ok (.iaload, 1) := by decide +kernel
theorem dX6_fills_67 : decode cX6_fills 67 = .ok (.lshl, 1) := by decide +kernel
theorem dX6_fills_68 : decode cX6_fills 68 = .ok (.goto 4, 3) := by decide +kernel
theorem dX6_fills_71 : decode cX6_fills 71 = .ok (.lconst 0, 1) := by decide +kernel
theorem dX6_fills_72 : decode cX6_fills 72 = .ok (.lor, 1) := by decide +kernel
theorem dX6_fills_73 : decode cX6_fills 73 = .ok (.lstore_n 2, 1) := by decide +kernel
theorem dX6_fills_74 : decode cX6_fills 74 = .ok (.iinc 4 1, 3) := by decide +kernel
theorem dX6_fills_77 : decode cX6_fills 77 = .ok (.goto (-38), 3) := by decide +kernel
theorem dX6_fills_80 : decode cX6_fills 80 = .ok (.aload_n 0, 1) := by decide +kernel
theorem dX6_fills_81 : decode cX6_fills 81 = .ok (.getfield 46, 3) := by decide +kernel
theorem dX6_fills_84 : decode cX6_fills 84 = .ok (.iload_n 1, 1) := by decide +kernel
theorem dX6_fills_85 : decode cX6_fills 85 = .ok (.aload_n 0, 1) := by decide +kernel
theorem dX6_fills_86 : decode cX6_fills 86 = .ok (.iconst 0, 1) := by decide +kernel
theorem dX6_fills_87 : decode cX6_fills 87 = .ok (.lload_n 2, 1) := by decide +kernel
theorem dX6_fills_88 : decode cX6_fills 88 = .ok (.invokevirtual 101, 3) := by decide +kernel
theorem dX6_fills_91 : decode cX6_fills 91 = .ok (.bastore, 1) := by decide +kernel
theorem dX6_fills_92 : decode cX6_fills 92 = .ok (.iinc 1 1, 3) := by decide +kernel
theorem dX6_fills_95 : decode cX6_fills 95 = .ok (.goto (-74), 3) := by decide +kernel
theorem dX6_fills_98 : decode cX6_fills 98 = .ok (.iconst 1, 1) := by decide +kernel
theorem dX6_fills_99 : decode cX6_fills 99 = .ok (.ireturn, 1) := by decide +kernel
theorem dX6_fillings_0 : decode cX6_fillings 0 = .ok (.iload_n 1, 1) := by decide +kernel
theorem dX6_fillings_1 : decode cX6_fillings 1 = .ok (.invokestatic 136, 3) := by decide +kernel
theorem dX6_fillings_4 : decode cX6_fillings 4 = .ok (.ifCond .ne 6, 3) := by decide +kernel
theorem dX6_fillings_7 : decode cX6_fillings 7 = .ok (.bipush (-11), 2) := by decide +kernel
theorem dX6_fillings_9 : decode cX6_fillings 9 = .ok (.ireturn, 1) := by decide +kernel
theorem dX6_fillings_10 : decode cX6_fillings 10 = .ok (.aload_n 0, 1) := by decide +kernel
theorem dX6_fillings_11 : decode cX6_fillings 11 = .ok (.invokevirtual 184, 3) := by decide +kernel
theorem dX6_fillings_14 : decode cX6_fillings 14 = .ok (.ifCond .ne 6, 3) := by decide +kernel
theorem dX6_fillings_17 : decode cX6_fillings 17 = .ok (.bipush (-13), 2) := by decide +kernel
theorem dX6_fillings_19 : decode cX6_fillings 19 = .ok (.ireturn, 1) := by decide +kernel
theorem dX6_fillings_20 : decode cX6_fillings 20 = .ok (.iconst 0, 1) := by decide +kernel
theorem dX6_fillings_21 : decode cX6_fillings 21 = .ok (.istore_n 2, 1) := by decide +kernel
theorem dX6_fillings_22 : decode cX6_fillings 22 = .ok (.iconst 0, 1) := by decide +kernel
theorem dX6_fillings_23 : decode cX6_fillings 23 = .ok (.istore_n 3, 1) := by decide +kernel
theorem dX6_fillings_24 : decode cX6_fillings 24 = .ok (.iload_n 3, 1) := by decide +kernel
theorem dX6_fillings_25 : decode cX6_fillings 25 = .ok (.iconst 1, 1) := by decide +kernel
theorem dX6_fillings_26 : decode cX6_fillings 26 = .ok (.aload_n 0, 1) := by decide +kernel
theorem dX6_fillings_27 : decode cX6_fillings 27 = .ok (.getfield 177, 3) := by decide +kernel
theorem dX6_fillings_30 : decode cX6_fillings 30 = .ok (.ishl, 1) := by decide +kernel
theorem dX6_fillings_31 : decode cX6_fillings 31 = .ok (.if_icmp .ge 35, 3) := by decide +kernel
theorem dX6_fillings_34 : decode cX6_fillings 34 = .ok (.iload_n 2, 1) := by decide +kernel
theorem dX6_fillings_35 : decode cX6_fillings 35 = .ok (.aload_n 0, 1) := by decide +kernel
theorem dX6_fillings_36 : decode cX6_fillings 36 = .ok (.getfield 46, 3) := by decide +kernel
theorem dX6_fillings_39 : decode cX6_fillings 39 = .ok (.iload_n 3, 1) := by decide +kernel
theorem dX6_fillings_40 : decode cX6_fillings 40 = .ok (.baload, 1) := by decide +kernel
theorem dX6_fillings_41 : decode cX6_fillings 41 = .ok (.iload_n 1, 1) := by decide +kernel
theorem dX6_fillings_42 : decode cX6_fillings 42 = .ok (.ifCond .ne 7, 3) := by decide +kernel
theorem dX6_fillings_45 : decode cX6_fillings 45 = .ok (.iconst 1, 1) := by decide +kernel
theorem dX6_fillings_46 : decode cX6_fillings 46 = .ok (.goto 4, 3) := by decide +kernel
theorem dX6_fillings_49 : decode cX6_fillings 49 = .ok (.iconst 0, 1) := by decide +kernel
theorem dX6_fillings_50 : decode cX6_fillings 50 = .ok (.if_icmp .ne 7, 3) := by decide +kernel
theorem dX6_fillings_53 : decode cX6_fillings 53 = .ok (.iconst 1, 1) := by decide +kernel
theorem dX6_fillings_54 : decode cX6_fillings 54 = .ok (.goto 4, 3) := by decide +kernel
theorem dX6_fillings_57 : decode cX6_fillings 57 = .ok (.iconst 0, 1) := by decide +kernel
theorem dX6_fillings_58 : decode cX6_fillings 58 = .ok (.iadd, 1) := by decide +kernel
theorem dX6_fillings_59 : decode cX6_fillings 59 = .ok (.istore_n 2, 1) := by decide +kernel
theorem dX6_fillings_60 : decode cX6_fillings 60 = .ok (.iinc 3 1, 3) := by decide +kernel
theorem dX6_fillings_63 : decode cX6_fillings 63 = .ok (.goto (-39), 3) := by decide +kernel
theorem dX6_fillings_66 : decode cX6_fillings 66 = .ok (.iload_n 2, 1) := by decide +kernel
theorem dX6_fillings_67 : decode cX6_fillings 67 = .ok (.ireturn, 1) := by decide +kernel
theorem dX6_weightOf_0 : decode cX6_weightOf 0 = .ok (.iconst 0, 1) := by decide +kernel
theorem dX6_weightOf_1 : decode cX6_weightOf 1 = .ok (.istore_n 2, 1) := by decide +kernel
theorem dX6_weightOf_2 : decode cX6_weightOf 2 = .ok (.iconst 0, 1) := by decide +kernel
theorem dX6_weightOf_3 : decode cX6_weightOf 3 = .ok (.istore_n 3, 1) := by decide +kernel
theorem dX6_weightOf_4 : decode cX6_weightOf 4 = .ok (.iload_n 3, 1) := by decide +kernel
theorem dX6_weightOf_5 : decode cX6_weightOf 5 = .ok (.iconst 1, 1) := by decide +kernel
theorem dX6_weightOf_6 : decode cX6_weightOf 6 = .ok (.aload_n 0, 1) := by decide +kernel
theorem dX6_weightOf_7 : decode cX6_weightOf 7 = .ok (.getfield 177, 3) := by decide +kernel
theorem dX6_weightOf_10 : decode cX6_weightOf 10 = .ok (.ishl, 1) := by decide +kernel
theorem dX6_weightOf_11 : decode cX6_weightOf 11 = .ok (.if_icmp .ge 44, 3) := by decide +kernel
theorem dX6_weightOf_14 : decode cX6_weightOf 14 = .ok (.iload_n 2, 1) := by decide +kernel
theorem dX6_weightOf_15 : decode cX6_weightOf 15 = .ok (.iload_n 3, 1) := by decide +kernel
theorem dX6_weightOf_16 : decode cX6_weightOf 16 = .ok (.iload_n 1, 1) := by decide +kernel
