theorem dX0_init_0 : decode cX0_init 0 = .ok (.aload_n 0, 1) := by decide +kernel
theorem dX0_init_1 : decode cX0_init 1 = .ok (.invokespecial 1, 3) := by decide +kernel
theorem dX0_init_4 : decode cX0_init 4 = .ok (.aload_n 0, 1) := by decide +kernel
theorem dX0_init_5 : decode cX0_init 5 = .ok (.iload_n 1, 1) := by decide +kernel
theorem dX0_init_6 : decode cX0_init 6 = .ok (.putfield 7, 3) := by decide +kernel
theorem dX0_init_9 : decode cX0_init 9 = .ok (.aload_n 0, 1) := by decide +kernel
theorem dX0_init_10 : decode cX0_init 10 = .ok (.iload_n 1, 1) := by decide +kernel
theorem dX0_init_11 : decode cX0_init 11 = .ok (.iload_n 1, 1) := by decide +kernel
theorem dX0_init_12 : decode cX0_init 12 = .ok (.imul, 1) := by decide +kernel
theorem dX0_init_13 : decode cX0_init 13 = .ok (.putfield 13, 3) := by decide +kernel
theorem dX0_init_16 : decode cX0_init 16 = .ok (.aload_n 0, 1) := by decide +kernel
theorem dX0_init_17 : decode cX0_init 17 = .ok (.lconst 1, 1) := by decide +kernel
theorem dX0_init_18 : decode cX0_init 18 = .ok (.aload_n 0, 1) := by decide +kernel
theorem dX0_init_19 : decode cX0_init 19 = .ok (.getfield 13, 3) := by decide +kernel
theorem dX0_init_22 : decode cX0_init 22 = .ok (.lshl, 1) := by decide +kernel
theorem dX0_init_23 : decode cX0_init 23 = .ok (.lconst 1, 1) := by decide +kernel
theorem dX0_init_24 : decode cX0_init 24 = .ok (.lsub, 1) := by decide +kernel
theorem dX0_init_25 : decode cX0_init 25 = .ok (.putfield 16, 3) := by decide +kernel
theorem dX0_init_28 : decode cX0_init 28 = .ok (.aload_n 0, 1) := by decide +kernel
theorem dX0_init_29 : decode cX0_init 29 = .ok (.lconst 1, 1) := by decide +kernel
theorem dX0_init_30 : decode cX0_init 30 = .ok (.iload_n 1, 1) := by decide +kernel
theorem dX0_init_31 : decode cX0_init 31 = .ok (.lshl, 1) := by decide +kernel
theorem dX0_init_32 : decode cX0_init 32 = .ok (.lconst 1, 1) := by decide +kernel
theorem dX0_init_33 : decode cX0_init 33 = .ok (.lsub, 1) := by decide +kernel
theorem dX0_init_34 : decode cX0_init 34 = .ok (.putfield 20, 3) := by decide +kernel
theorem dX0_init_37 : decode cX0_init 37 = .ok (.aload_n 0, 1) := by decide +kernel
theorem dX0_init_38 : decode cX0_init 38 = .ok (.aload_n 0, 1) := by decide +kernel
theorem dX0_init_39 : decode cX0_init 39 = .ok (.getfield 20, 3) := by decide +kernel
theorem dX0_init_42 : decode cX0_init 42 = .ok (.aload_n 0, 1) := by decide +kernel
theorem dX0_init_43 : decode cX0_init 43 = .ok (.getfield 13, 3) := by decide +kernel
theorem dX0_init_46 : decode cX0_init 46 = .ok (.iload_n 1, 1) := by decide +kernel
theorem dX0_init_47 : decode cX0_init 47 = .ok (.isub, 1) := by decide +kernel
theorem dX0_init_48 : decode cX0_init 48 = .ok (.lshl, 1) := by decide +kernel
theorem dX0_init_49 : decode cX0_init 49 = .ok (.putfield 23, 3) := by decide +kernel
theorem dX0_init_52 : decode cX0_init 52 = .ok (.lconst 0, 1) := by decide +kernel
theorem dX0_init_53 : decode cX0_init 53 = .ok (.lstore_n 2, 1) := by decide +kernel
theorem dX0_init_54 : decode cX0_init 54 = .ok (.iconst 0, 1) := by decide +kernel
theorem dX0_init_55 : decode cX0_init 55 = .ok (.istore 4, 2) := by decide +kernel
theorem dX0_init_57 : decode cX0_init 57 = .ok (.iload 4, 2) := by decide +kernel
theorem dX0_init_59 : decode cX0_init 59 = .ok (.iload_n 1, 1) := by decide +kernel
theorem dX0_init_60 : decode cX0_init 60 = .ok (.if_icmp .ge 18, 3) := by decide +kernel
theorem dX0_init_63 : decode cX0_init 63 = .ok (.lload_n 2, 1) := by decide +kernel
theorem dX0_init_64 : decode cX0_init 64 = .ok (.lconst 1, 1) := by decide +kernel
theorem dX0_init_65 : decode cX0_init 65 = .ok (.iload 4, 2) := by decide +kernel
theorem dX0_init_67 : decode cX0_init 67 = .ok (.iload_n 1, 1) := by decide +kernel
theorem dX0_init_68 : decode cX0_init 68 = .ok (.imul, 1) := by decide +kernel
theorem dX0_init_69 : decode cX0_init 69 = .ok (.lshl, 1) := by decide +kernel
theorem dX0_init_70 : decode cX0_init 70 = .ok (.lor, 1) := by decide +kernel
theorem dX0_init_71 : decode cX0_init 71 = .ok (.lstore_n 2, 1) := by decide +kernel
theorem dX0_init_72 : decode cX0_init 72 = .ok (.iinc 4 1, 3) := by decide +kernel
theorem dX0_init_75 : decode cX0_init 75 = .ok (.goto (-18), 3) := by decide +kernel
theorem dX0_init_78 : decode cX0_init 78 = .ok (.aload_n 0, 1) := by decide +kernel
theorem dX0_init_79 : decode cX0_init 79 = .ok (.lload_n 2, 1) := by decide +kernel
theorem dX0_init_80 : decode cX0_init 80 = .ok (.putfield 26, 3) := by decide +kernel
theorem dX0_init_83 : decode cX0_init 83 = .ok (.aload_n 0, 1) := by decide +kernel
theorem dX0_init_84 : decode cX0_init 84 = .ok (.lload_n 2, 1) := by decide +kernel
theorem dX0_init_85 : decode cX0_init 85 = .ok (.iload_n 1, 1) := by decide +kernel
theorem dX0_init_86 : decode cX0_init 86 = .ok (.iconst 1, 1) := by decide +kernel
theorem dX0_init_87 : decode cX0_init 87 = .ok (.isub, 1) := by decide +kernel
theorem dX0_init_88 : decode cX0_init 88 = .ok (.lshl, 1) := by decide +kernel
theorem dX0_init_89 : decode cX0_init 89 = .ok (.putfield 29, 3) := by decide +kernel
theorem dX0_init_92 : decode cX0_init 92 = .ok (.return_, 1) := by decide +kernel
theorem dX0_around_0 : decode cX0_around 0 = .ok (.lload_n 1, 1) := by decide +kernel
theorem dX0_around_1 : decode cX0_around 1 = .ok (.iconst 1, 1) := by decide +kernel
theorem dX0_around_2 : decode cX0_around 2 = .ok (.lshl, 1) := by decide +kernel
theorem dX0_around_3 : decode cX0_around 3 = .ok (.lload_n 1, 1) := by decide +kernel
theorem dX0_around_4 : decode cX0_around 4 = .ok (.aload_n 0, 1) := by decide +kernel
theorem dX0_around_5 : decode cX0_around 5 = .ok (.getfield 7, 3) := by decide +kernel
theorem dX0_around_8 : decode cX0_around 8 = .ok (.iconst 1, 1) := by decide +kernel
theorem dX0_around_9 : decode cX0_around 9 = .ok (.isub, 1) := by decide +kernel
theorem dX0_around_10 : decode cX0_around 10 = .ok (.lushr, 1) := by decide +kernel
theorem dX0_around_11 : decode cX0_around 11 = .ok (.lor, 1) := by decide +kernel
theorem dX0_around_12 : decode cX0_around 12 = .ok (.aload_n 0, 1) := by decide +kernel
theorem dX0_around_13 : decode cX0_around 13 = .ok (.getfield 26, 3) := by decide +kernel
theorem dX0_around_16 : decode cX0_around 16 = .ok (.ldc2_w 32, 3) := by decide +kernel
theorem dX0_around_19 : decode cX0_around 19 = .ok (.lxor, 1) := by decide +kernel
theorem dX0_around_20 : decode cX0_around 20 = .ok (.land, 1) := by decide +kernel
theorem dX0_around_21 : decode cX0_around 21 = .ok (.lstore_n 3, 1) := by decide +kernel
theorem dX0_around_22 : decode cX0_around 22 = .ok (.lload_n 1, 1) := by decide +kernel
theorem dX0_around_23 : decode cX0_around 23 = .ok (.iconst 1, 1) := by decide +kernel
theorem dX0_around_24 : decode cX0_around 24 = .ok (.lushr, 1) := by decide +kernel
theorem dX0_around_25 : decode cX0_around 25 = .ok (.lload_n 1, 1) := by decide +kernel
theorem dX0_around_26 : decode cX0_around 26 = .ok (.aload_n 0, 1) := by decide +kernel
theorem dX0_around_27 : decode cX0_around 27 = .ok (.getfield 7, 3) := by decide +kernel
theorem dX0_around_30 : decode cX0_around 30 = .ok (.iconst 1, 1) := by decide +kernel
theorem dX0_around_31 : decode cX0_around 31 = .ok (.isub, 1) := by decide +kernel
theorem dX0_around_32 : decode cX0_around 32 = .ok (.lshl, 1) := by decide +kernel
theorem dX0_around_33 : decode cX0_around 33 = .ok (.lor, 1) := by decide +kernel
theorem dX0_around_34 : decode cX0_around 34 = .ok (.aload_n 0, 1) := by decide +kernel
theorem dX0_around_35 : decode cX0_around 35 = .ok (.getfield 29, 3) := by decide +kernel
theorem dX0_around_38 : decode cX0_around 38 = .ok (.ldc2_w 32, 3) := by decide +kernel
theorem dX0_around_41 : decode cX0_around 41 = .ok (.lxor, 1) := by decide +kernel
theorem dX0_around_42 : decode cX0_around 42 = .ok (.land, 1) := by decide +kernel
theorem dX0_around_43 : decode cX0_around 43 = .ok (.lstore 5, 2) := by decide +kernel
theorem dX0_around_45 : decode cX0_around 45 = .ok (.lload_n 3, 1) := by decide +kernel
theorem dX0_around_46 : decode cX0_around 46 = .ok (.lload 5, 2) := by decide +kernel
theorem dX0_around_48 : decode cX0_around 48 = .ok (.lor, 1) := by decide +kernel
theorem dX0_around_49 : decode cX0_around 49 = .ok (.lload_n 1, 1) := by decide +kernel
theorem dX0_around_50 : decode cX0_around 50 = .ok (.aload_n 0, 1) := by decide +kernel
theorem dX0_around_51 : decode cX0_around 51 = .ok (.getfield 7, 3) := by decide +kernel
theorem dX0_around_54 : decode cX0_around 54 = .ok (.lshl, 1) := by decide +kernel
theorem dX0_around_55 : decode cX0_around 55 = .ok (.lor, 1) := by decide +kernel
theorem dX0_around_56 : decode cX0_around 56 = .ok (.lload_n 1, 1) := by decide +kernel
theorem dX0_around_57 : decode cX0_around 57 = .ok (.aload_n 0, 1) := by decide +kernel
theorem dX0_around_58 : decode cX0_around 58 = .ok (.getfield 7, 3) := by decide +kernel
theorem dX0_around_61 : decode cX0_around 61 = .ok (.lushr, 1) := by decide +kernel
theorem dX0_around_62 : decode cX0_around 62 = .ok (.lor, 1) := by decide +kernel
theorem dX0_around_63 : decode cX0_around 63 = .ok (.aload_n 0, 1) := by decide +kernel
theorem dX0_around_64 : decode cX0_around 64 = .ok (.getfield 16, 3) := by decide +kernel
theorem dX0_around_67 : decode cX0_around 67 = .ok (.land, 1) := by decide +kernel
theorem dX0_around_68 : decode cX0_around 68 = .ok (.lreturn, 1) := by decide +kernel
theorem dX0_flood_0 : decode cX0_flood 0 = .ok (.aload_n 0, 1) := by decide +kernel
theorem dX0_flood_1 : decode cX0_flood 1 = .ok (.lload_n 1, 1) := by decide +kernel
theorem dX0_flood_2 : decode cX0_flood 2 = .ok (.lload_n 3, 1) := by decide +kernel
theorem dX0_flood_3 : decode cX0_flood 3 = .ok (.lconst 0, 1) := by decide +kernel
theorem dX0_flood_4 : decode cX0_flood 4 = .ok (.invokevirtual 34, 3) := by decide +kernel
theorem dX0_flood_7 : decode cX0_flood 7 = .ok (.lreturn, 1) := by decide +kernel
theorem dX0_linked_0 : decode cX0_linked 0 = .ok (.aload_n 0, 1) := by decide +kernel
theorem dX0_linked_1 : decode cX0_linked 1 = .ok (.lload_n 3, 1) := by decide +kernel
theorem dX0_linked_2 : decode cX0_linked 2 = .ok (.lload_n 1, 1) := by decide +kernel
theorem dX0_linked_3 : decode cX0_linked 3 = .ok (.lload 5, 2) := by decide +kernel
theorem dX0_linked_5 : decode cX0_linked 5 = .ok (.invokevirtual 34, 3) := by decide +kernel
theorem dX0_linked_8 : decode cX0_linked 8 = .ok (.lload 5, 2) := by decide +kernel
theorem dX0_linked_10 : decode cX0_linked 10 = .ok (.land, 1) := by decide +kernel
theorem dX0_linked_11 : decode cX0_linked 11 = .ok (.lconst 0, 1) := by decide +kernel
theorem dX0_linked_12 : decode cX0_linked 12 = .ok (.lcmp, 1) := by decide +kernel
theorem dX0_linked_13 : decode cX0_linked 13 = .ok (.ifCond .eq 7, 3) := by decide +kernel
theorem dX0_linked_16 : decode cX0_linked 16 = .ok (.iconst 1, 1) := by decide +kernel
theorem dX0_linked_17 : decode cX0_linked 17 = .ok (.goto 4, 3) := by decide +kernel
theorem dX0_linked_20 : decode cX0_linked 20 = .ok (.iconst 0, 1) := by decide +kernel
theorem dX0_linked_21 : decode cX0_linked 21 = .ok (.ireturn, 1) := by decide +kernel
theorem dX0_floodUpTo_0 : decode cX0_floodUpTo 0 = .ok (.lload_n 1, 1) := by decide +kernel
theorem dX0_floodUpTo_1 : decode cX0_floodUpTo 1 = .ok (.lload_n 3, 1) := by decide +kernel
theorem dX0_floodUpTo_2 : decode cX0_floodUpTo 2 = .ok (.land, 1) := by decide +kernel
theorem dX0_floodUpTo_3 : decode cX0_floodUpTo 3 = .ok (.lstore 7, 2) := by decide +kernel
theorem dX0_floodUpTo_5 : decode cX0_floodUpTo 5 = .ok (.iconst 0, 1) := by decide +kernel
theorem dX0_floodUpTo_6 : decode cX0_floodUpTo 6 = .ok (.istore 9, 2) := by decide +kernel
theorem dX0_floodUpTo_8 : decode cX0_floodUpTo 8 = .ok (.iload 9, 2) := by decide +kernel
theorem dX0_floodUpTo_10 : decode cX0_floodUpTo 10 = .ok (.aload_n 0, 1) := by decide +kernel
theorem dX0_floodUpTo_11 : decode cX0_floodUpTo 11 = .ok (.getfield 13, 3) := by decide +kernel
theorem dX0_floodUpTo_14 : decode cX0_floodUpTo 14 = .ok (.if_icmp .ge 47, 3) := by decide +kernel
theorem dX0_floodUpTo_17 : decode cX0_floodUpTo 17 = .ok (.lload 7, 2) := by decide +kernel
theorem dX0_floodUpTo_19 : decode cX0_floodUpTo 19 = .ok (.lload 5, 2) := by decide +kernel
theorem dX0_floodUpTo_21 : decode cX0_floodUpTo 21 = .ok (.land, 1) := by decide +kernel
theorem dX0_floodUpTo_22 : decode cX0_floodUpTo 22 = .ok (.lconst 0, 1) := by decide +kernel
theorem dX0_floodUpTo_23 : decode cX0_floodUpTo 23 = .ok (.lcmp, 1) := by decide +kernel
theorem dX0_floodUpTo_24 : decode cX0_floodUpTo 24 = .ok (.ifCond .ne 37, 3) := by decide +kernel
theorem dX0_floodUpTo_27 : decode cX0_floodUpTo 27 = .ok (.lload 7, 2) := by decide +kernel
theorem dX0_floodUpTo_29 : decode cX0_floodUpTo 29 = .ok (.aload_n 0, 1) := by decide +kernel
theorem dX0_floodUpTo_30 : decode cX0_floodUpTo 30 = .ok (.lload 7, 2) := by decide +kernel
theorem dX0_floodUpTo_32 : decode cX0_floodUpTo 32 = .ok (.invokevirtual 38, 3) := by decide +kernel
theorem dX0_floodUpTo_35 : decode cX0_floodUpTo 35 = .ok (.lor, 1) := by decide +kernel
theorem dX0_floodUpTo_36 : decode cX0_floodUpTo 36 = .ok (.lload_n 3, 1) := by decide +kernel
theorem dX0_floodUpTo_37 : decode cX0_floodUpTo 37 = .ok (.land, 1) := by decide +kernel
theorem dX0_floodUpTo_38 : decode cX0_floodUpTo 38 = .ok (.lstore 10, 2) := by decide +kernel
theorem dX0_floodUpTo_40 : decode cX0_floodUpTo 40 = .ok (.lload 10, 2) := by decide +kernel
theorem dX0_floodUpTo_42 : decode cX0_floodUpTo 42 = .ok (.lload 7, 2) := by decide +kernel
theorem dX0_floodUpTo_44 : decode cX0_floodUpTo 44 = .ok (.lcmp, 1) := by decide +kernel
theorem dX0_floodUpTo_45 : decode cX0_floodUpTo 45 = .ok (.ifCond .ne 6, 3) := by decide +kernel
theorem dX0_floodUpTo_48 : decode cX0_floodUpTo 48 = .ok (.lload 7, 2) := by decide +kernel
theorem dX0_floodUpTo_50 : decode cX0_floodUpTo 50 = .ok (.lreturn, 1) := by decide +kernel
theorem dX0_floodUpTo_51 : decode cX0_floodUpTo 51 = .ok (.lload 10, 2) := by decide +kernel
theorem dX0_floodUpTo_53 : decode cX0_floodUpTo 53 = .ok (.lstore 7, 2) := by decide +kernel
theorem dX0_floodUpTo_55 : decode cX0_floodUpTo 55 = .ok (.iinc 9 1, 3) := by decide +kernel
theorem dX0_floodUpTo_58 : decode cX0_floodUpTo 58 = .ok (.goto (-50), 3) := by decide +kernel
theorem dX0_floodUpTo_61 : decode cX0_floodUpTo 61 = .ok (.lload 7, 2) := by decide +kernel
theorem dX0_floodUpTo_63 : decode cX0_floodUpTo 63 = .ok (.lreturn, 1) := by decide +kernel
theorem dX0_firstEdge_0 : decode cX0_firstEdge 0 = .ok (.iload_n 1, 1) := by decide +kernel
theorem dX0_firstEdge_1 : decode cX0_firstEdge 1 = .ok (.ifCond .ne 10, 3) := by decide +kernel
theorem dX0_firstEdge_4 : decode cX0_firstEdge 4 = .ok (.aload_n 0, 1) := by decide +kernel
theorem dX0_firstEdge_5 : decode cX0_firstEdge 5 = .ok (.getfield 20, 3) := by decide +kernel
theorem dX0_firstEdge_8 : decode cX0_firstEdge 8 = .ok (.goto 7, 3) := by decide +kernel
theorem dX0_firstEdge_11 : decode cX0_firstEdge 11 = .ok (.aload_n 0, 1) := by decide +kernel
theorem dX0_firstEdge_12 : decode cX0_firstEdge 12 = .ok (.getfield 26, 3) := by decide +kernel
theorem dX0_firstEdge_15 : decode cX0_firstEdge 15 = .ok (.lreturn, 1) := by decide +kernel
theorem dX0_secondEdge_0 : decode cX0_secondEdge 0 = .ok (.iload_n 1, 1) := by decide +kernel
theorem dX0_secondEdge_1 : decode cX0_secondEdge 1 = .ok (.ifCond .ne 10, 3) := by decide +kernel
theorem dX0_secondEdge_4 : decode cX0_secondEdge 4 = .ok (.aload_n 0, 1) := by decide +kernel
theorem dX0_secondEdge_5 : decode cX0_secondEdge 5 = .ok (.getfield 23, 3) := by decide +kernel
theorem dX0_secondEdge_8 : decode cX0_secondEdge 8 = .ok (.goto 7, 3) := by decide +kernel
theorem dX0_secondEdge_11 : decode cX0_secondEdge 11 = .ok (.aload_n 0, 1) := by decide +kernel
theorem dX0_secondEdge_12 : decode cX0_secondEdge 12 = .ok (.getfield 29, 3) := by decide +kernel
theorem dX0_secondEdge_15 : decode cX0_secondEdge 15 = .ok (.lreturn, 1) := by decide +kernel
theorem dX0_cellsOf_0 : decode cX0_cellsOf 0 = .ok (.iload_n 1, 1) := by decide +kernel
theorem dX0_cellsOf_1 : decode cX0_cellsOf 1 = .ok (.tableswitch 51 (-4) (-1) #[46, 41, 36, 31], 31) := by decide +kernel
theorem dX0_cellsOf_32 : decode cX0_cellsOf 32 = .ok (.aload_n 0, 1) := by decide +kernel
theorem dX0_cellsOf_33 : decode cX0_cellsOf 33 = .ok (.getfield 20, 3) := by decide +kernel
theorem dX0_cellsOf_36 : decode cX0_cellsOf 36 = .ok (.lreturn, 1) := by decide +kernel
theorem dX0_cellsOf_37 : decode cX0_cellsOf 37 = .ok (.aload_n 0, 1) := by decide +kernel
theorem dX0_cellsOf_38 : decode cX0_cellsOf 38 = .ok (.getfield 23, 3) := by decide +kernel
theorem dX0_cellsOf_41 : decode cX0_cellsOf 41 = .ok (.lreturn, 1) := by decide +kernel
theorem dX0_cellsOf_42 : decode cX0_cellsOf 42 = .ok (.aload_n 0, 1) := by decide +kernel
theorem dX0_cellsOf_43 : decode cX0_cellsOf 43 = .ok (.getfield 26, 3) := by decide +kernel
theorem dX0_cellsOf_46 : decode cX0_cellsOf 46 = .ok (.lreturn, 1) := by decide +kernel
theorem dX0_cellsOf_47 : decode cX0_cellsOf 47 = .ok (.aload_n 0, 1) := by decide +kernel
theorem dX0_cellsOf_48 : decode cX0_cellsOf 48 = .ok (.getfield 29, 3) := by decide +kernel
theorem dX0_cellsOf_51 : decode cX0_cellsOf 51 = .ok (.lreturn, 1) := by decide +kernel
theorem dX0_cellsOf_52 : decode cX0_cellsOf 52 = .ok (.lconst 1, 1) := by decide +kernel
theorem dX0_cellsOf_53 : decode cX0_cellsOf 53 = .ok (.iload_n 1, 1) := by decide +kernel
theorem dX0_cellsOf_54 : decode cX0_cellsOf 54 = .ok (.lshl, 1) := by decide +kernel
theorem dX0_cellsOf_55 : decode cX0_cellsOf 55 = .ok (.lreturn, 1) := by decide +kernel
theorem dX0_mirrored_0 : decode cX0_mirrored 0 = .ok (.lconst 0, 1) := by decide +kernel
theorem dX0_mirrored_1 : decode cX0_mirrored 1 = .ok (.lstore_n 3, 1) := by decide +kernel
theorem dX0_mirrored_2 : decode cX0_mirrored 2 = .ok (.iconst 0, 1) := by decide +kernel
theorem dX0_mirrored_3 : decode cX0_mirrored 3 = .ok (.istore 5, 2) := by decide +kernel
theorem dX0_mirrored_5 : decode cX0_mirrored 5 = .ok (.iload 5, 2) := by decide +kernel
theorem dX0_mirrored_7 : decode cX0_mirrored 7 = .ok (.aload_n 0, 1) := by decide +kernel
theorem dX0_mirrored_8 : decode cX0_mirrored 8 = .ok (.getfield 7, 3) := by decide +kernel
theorem dX0_mirrored_11 : decode cX0_mirrored 11 = .ok (.if_icmp .ge 61, 3) := by decide +kernel
theorem dX0_mirrored_14 : decode cX0_mirrored 14 = .ok (.iconst 0, 1) := by decide +kernel
theorem dX0_mirrored_15 : decode cX0_mirrored 15 = .ok (.istore 6, 2) := by decide +kernel
theorem dX0_mirrored_17 : decode cX0_mirrored 17 = .ok (.iload 6, 2) := by decide +kernel
theorem dX0_mirrored_19 : decode cX0_mirrored 19 = .ok (.aload_n 0, 1) := by decide +kernel
theorem dX0_mirrored_20 : decode cX0_mirrored 20 = .ok (.getfield 7, 3) := by decide +kernel
theorem dX0_mirrored_23 : decode cX0_mirrored 23 = .ok (.if_icmp .ge 43, 3) := by decide +kernel
theorem dX0_mirrored_26 : decode cX0_mirrored 26 = .ok (.lload_n 1, 1) := by decide +kernel
theorem dX0_mirrored_27 : decode cX0_mirrored 27 = .ok (.iload 5, 2) := by decide +kernel
theorem dX0_mirrored_29 : decode cX0_mirrored 29 = .ok (.aload_n 0, 1) := by decide +kernel
theorem dX0_mirrored_30 : decode cX0_mirrored 30 = .ok (.getfield 7, 3) := by decide +kernel
theorem dX0_mirrored_33 : decode cX0_mirrored 33 = .ok (.imul, 1) := by decide +kernel
theorem dX0_mirrored_34 : decode cX0_mirrored 34 = .ok (.iload 6, 2) := by decide +kernel
theorem dX0_mirrored_36 : decode cX0_mirrored 36 = .ok (.iadd, 1) := by decide +kernel
theorem dX0_mirrored_37 : decode cX0_mirrored 37 = .ok (.lushr, 1) := by decide +kernel
theorem dX0_mirrored_38 : decode cX0_mirrored 38 = .ok (.lconst 1, 1) := by decide +kernel
theorem dX0_mirrored_39 : decode cX0_mirrored 39 = .ok (.land, 1) := by decide +kernel
theorem dX0_mirrored_40 : decode cX0_mirrored 40 = .ok (.lconst 0, 1) := by decide +kernel
theorem dX0_mirrored_41 : decode cX0_mirrored 41 = .ok (.lcmp, 1) := by decide +kernel
theorem dX0_mirrored_42 : decode cX0_mirrored 42 = .ok (.ifCond .eq 18, 3) := by decide +kernel
theorem dX0_mirrored_45 : decode cX0_mirrored 45 = .ok (.lload_n 3, 1) := by decide +kernel
theorem dX0_mirrored_46 : decode cX0_mirrored 46 = .ok (.lconst 1, 1) := by decide +kernel
theorem dX0_mirrored_47 : decode cX0_mirrored 47 = .ok (.iload 6, 2) := by decide +kernel
theorem dX0_mirrored_49 : decode cX0_mirrored 49 = .ok (.aload_n 0, 1) := by decide +kernel
theorem dX0_mirrored_50 : decode cX0_mirrored 50 = .ok (.getfield 7, 3) := by decide +kernel
theorem dX0_mirrored_53 : decode cX0_mirrored 53 = .ok (.imul, 1) := by decide +kernel
theorem dX0_mirrored_54 : decode cX0_mirrored 54 = .ok (.iload 5, 2) := by decide +kernel
theorem dX0_mirrored_56 : decode cX0_mirrored 56 = .ok (.iadd, 1) := by decide +kernel
theorem dX0_mirrored_57 : decode cX0_mirrored 57 = .ok (.lshl, 1) := by decide +kernel
theorem dX0_mirrored_58 : decode cX0_mirrored 58 = .ok (.lor, 1) := by decide +kernel
theorem dX0_mirrored_59 : decode cX0_mirrored 59 = .ok (.lstore_n 3, 1) := by decide +kernel
theorem dX0_mirrored_60 : decode cX0_mirrored 60 = .ok (.iinc 6 1, 3) := by decide +kernel
theorem dX0_mirrored_63 : decode cX0_mirrored 63 = .ok (.goto (-46), 3) := by decide +kernel
theorem dX0_mirrored_66 : decode cX0_mirrored 66 = .ok (.iinc 5 1, 3) := by decide +kernel
theorem dX0_mirrored_69 : decode cX0_mirrored 69 = .ok (.goto (-64), 3) := by decide +kernel
theorem dX0_mirrored_72 : decode cX0_mirrored 72 = .ok (.lload_n 3, 1) := by decide +kernel
theorem dX0_mirrored_73 : decode cX0_mirrored 73 = .ok (.lreturn, 1) := by decide +kernel
theorem dX1_init_0 : decode cX1_init 0 = .ok (.aload_n 0, 1) := by decide +kernel
theorem dX1_init_1 : decode cX1_init 1 = .ok (.invokespecial 3, 3) := by decide +kernel
theorem dX1_init_4 : decode cX1_init 4 = .ok (.aload_n 0, 1) := by decide +kernel
theorem dX1_init_5 : decode cX1_init 5 = .ok (.bipush 9, 2) := by decide +kernel
theorem dX1_init_7 : decode cX1_init 7 = .ok (.newarray .long, 2) := by decide +kernel
theorem dX1_init_9 : decode cX1_init 9 = .ok (.putfield 9, 3) := by decide +kernel
theorem dX1_init_12 : decode cX1_init 12 = .ok (.aload_n 0, 1) := by decide +kernel
theorem dX1_init_13 : decode cX1_init 13 = .ok (.sipush 1641, 3) := by decide +kernel
theorem dX1_init_16 : decode cX1_init 16 = .ok (.newarray .long, 2) := by decide +kernel
theorem dX1_init_18 : decode cX1_init 18 = .ok (.putfield 15, 3) := by decide +kernel
theorem dX1_init_21 : decode cX1_init 21 = .ok (.aload_n 0, 1) := by decide +kernel
theorem dX1_init_22 : decode cX1_init 22 = .ok (.aload_n 1, 1) := by decide +kernel
theorem dX1_init_23 : decode cX1_init 23 = .ok (.putfield 18, 3) := by decide +kernel
theorem dX1_init_26 : decode cX1_init 26 = .ok (.return_, 1) := by decide +kernel
theorem dX1_connects_0 : decode cX1_connects 0 = .ok (.iload_n 0, 1) := by decide +kernel
theorem dX1_connects_1 : decode cX1_connects 1 = .ok (.iconst 1, 1) := by decide +kernel
theorem dX1_connects_2 : decode cX1_connects 2 = .ok (.iand, 1) := by decide +kernel
theorem dX1_connects_3 : decode cX1_connects 3 = .ok (.iconst 1, 1) := by decide +kernel
theorem dX1_connects_4 : decode cX1_connects 4 = .ok (.if_icmp .ne 7, 3) := by decide +kernel
theorem dX1_connects_7 : decode cX1_connects 7 = .ok (.iconst 1, 1) := by decide +kernel
theorem dX1_connects_8 : decode cX1_connects 8 = .ok (.goto 4, 3) := by decide +kernel
theorem dX1_connects_11 : decode cX1_connects 11 = .ok (.iconst 0, 1) := by decide +kernel
theorem dX1_connects_12 : decode cX1_connects 12 = .ok (.ireturn, 1) := by decide +kernel
theorem dX1_length_0 : decode cX1_length 0 = .ok (.iload_n 0, 1) := by decide +kernel
theorem dX1_length_1 : decode cX1_length 1 = .ok (.iconst 1, 1) := by decide +kernel
theorem dX1_length_2 : decode cX1_length 2 = .ok (.ishr, 1) := by decide +kernel
theorem dX1_length_3 : decode cX1_length 3 = .ok (.ireturn, 1) := by decide +kernel
theorem dX1_arrange_0 : decode cX1_arrange 0 = .ok (.aload_n 0, 1) := by decide +kernel
theorem dX1_arrange_1 : decode cX1_arrange 1 = .ok (.aload_n 1, 1) := by decide +kernel
theorem dX1_arrange_2 : decode cX1_arrange 2 = .ok (.putfield 18, 3) := by decide +kernel
theorem dX1_arrange_5 : decode cX1_arrange 5 = .ok (.aload_n 0, 1) := by decide +kernel
theorem dX1_arrange_6 : decode cX1_arrange 6 = .ok (.lload_n 2, 1) := by decide +kernel
theorem dX1_arrange_7 : decode cX1_arrange 7 = .ok (.putfield 22, 3) := by decide +kernel
theorem dX1_arrange_10 : decode cX1_arrange 10 = .ok (.aload_n 0, 1) := by decide +kernel
theorem dX1_arrange_11 : decode cX1_arrange 11 = .ok (.lload 4, 2) := by decide +kernel
theorem dX1_arrange_13 : decode cX1_arrange 13 = .ok (.putfield 26, 3) := by decide +kernel
theorem dX1_arrange_16 : decode cX1_arrange 16 = .ok (.lload 6, 2) := by decide +kernel
theorem dX1_arrange_18 : decode cX1_arrange 18 = .ok (.lstore 8, 2) := by decide +kernel
theorem dX1_arrange_20 : decode cX1_arrange 20 = .ok (.iconst 1, 1) := by decide +kernel
theorem dX1_arrange_21 : decode cX1_arrange 21 = .ok (.istore 10, 2) := by decide +kernel
theorem dX1_arrange_23 : decode cX1_arrange 23 = .ok (.iconst 0, 1) := by decide +kernel
theorem dX1_arrange_24 : decode cX1_arrange 24 = .ok (.istore 11, 2) := by decide +kernel
theorem dX1_arrange_26 : decode cX1_arrange 26 = .ok (.iload 11, 2) := by decide +kernel
theorem dX1_arrange_28 : decode cX1_arrange 28 = .ok (.bipush 9, 2) := by decide +kernel
theorem dX1_arrange_30 : decode cX1_arrange 30 = .ok (.if_icmp .ge 48, 3) := by decide +kernel
theorem dX1_arrange_33 : decode cX1_arrange 33 = .ok (.aload_n 0, 1) := by decide +kernel
theorem dX1_arrange_34 : decode cX1_arrange 34 = .ok (.getfield 9, 3) := by decide +kernel
theorem dX1_arrange_37 : decode cX1_arrange 37 = .ok (.iload 11, 2) := by decide +kernel
theorem dX1_arrange_39 : decode cX1_arrange 39 = .ok (.lload 8, 2) := by decide +kernel
theorem dX1_arrange_41 : decode cX1_arrange 41 = .ok (.lload 8, 2) := by decide +kernel
theorem dX1_arrange_43 : decode cX1_arrange 43 = .ok (.lneg, 1) := by decide +kernel
theorem dX1_arrange_44 : decode cX1_arrange 44 = .ok (.land, 1) := by decide +kernel
theorem dX1_arrange_45 : decode cX1_arrange 45 = .ok (.lastore, 1) := by decide +kernel
theorem dX1_arrange_46 : decode cX1_arrange 46 = .ok (.iload 10, 2) := by decide +kernel
theorem dX1_arrange_48 : decode cX1_arrange 48 = .ok (.lload 8, 2) := by decide +kernel
theorem dX1_arrange_50 : decode cX1_arrange 50 = .ok (.lconst 0, 1) := by decide +kernel
theorem dX1_arrange_51 : decode cX1_arrange 51 = .ok (.lcmp, 1) := by decide +kernel
theorem dX1_arrange_52 : decode cX1_arrange 52 = .ok (.ifCond .ne 7, 3) := by decide +kernel
theorem dX1_arrange_55 : decode cX1_arrange 55 = .ok (.iconst 1, 1) := by decide +kernel
theorem dX1_arrange_56 : decode cX1_arrange 56 = .ok (.goto 4, 3) := by decide +kernel
theorem dX1_arrange_59 : decode cX1_arrange 59 = .ok (.iconst 3, 1) := by decide +kernel
theorem dX1_arrange_60 : decode cX1_arrange 60 = .ok (.imul, 1) := by decide +kernel
theorem dX1_arrange_61 : decode cX1_arrange 61 = .ok (.istore 10, 2) := by decide +kernel
theorem dX1_arrange_63 : decode cX1_arrange 63 = .ok (.lload 8, 2) := by decide +kernel
theorem dX1_arrange_65 : decode cX1_arrange 65 = .ok (.lload 8, 2) := by decide +kernel
theorem dX1_arrange_67 : decode cX1_arrange 67 = .ok (.lconst 1, 1) := by decide +kernel
theorem dX1_arrange_68 : decode cX1_arrange 68 = .ok (.lsub, 1) := by decide +kernel
theorem dX1_arrange_69 : decode cX1_arrange 69 = .ok (.land, 1) := by decide +kernel
theorem dX1_arrange_70 : decode cX1_arrange 70 = .ok (.lstore 8, 2) := by decide +kernel
theorem dX1_arrange_72 : decode cX1_arrange 72 = .ok (.iinc 11 1, 3) := by decide +kernel
theorem dX1_arrange_75 : decode cX1_arrange 75 = .ok (.goto (-49), 3) := by decide +kernel
theorem dX1_arrange_78 : decode cX1_arrange 78 = .ok (.iconst 0, 1) := by decide +kernel
theorem dX1_arrange_79 : decode cX1_arrange 79 = .ok (.istore 11, 2) := by decide +kernel
theorem dX1_arrange_81 : decode cX1_arrange 81 = .ok (.iload 11, 2) := by decide +kernel
theorem dX1_arrange_83 : decode cX1_arrange 83 = .ok (.sipush 1641, 3) := by decide +kernel
theorem dX1_arrange_86 : decode cX1_arrange 86 = .ok (.if_icmp .ge 27, 3) := by decide +kernel
theorem dX1_arrange_89 : decode cX1_arrange 89 = .ok (.iload 11, 2) := by decide +kernel
theorem dX1_arrange_91 : decode cX1_arrange 91 = .ok (.bipush 12, 2) := by decide +kernel
theorem dX1_arrange_93 : decode cX1_arrange 93 = .ok (.imul, 1) := by decide +kernel
theorem dX1_arrange_94 : decode cX1_arrange 94 = .ok (.iload 10, 2) := by decide +kernel
theorem dX1_arrange_96 : decode cX1_arrange 96 = .ok (.if_icmp .ge 17, 3) := by decide +kernel
theorem dX1_arrange_99 : decode cX1_arrange 99 = .ok (.aload_n 0, 1) := by decide +kernel
theorem dX1_arrange_100 : decode cX1_arrange 100 = .ok (.getfield 15, 3) := by decide +kernel
theorem dX1_arrange_103 : decode cX1_arrange 103 = .ok (.iload 11, 2) := by decide +kernel
theorem dX1_arrange_105 : decode cX1_arrange 105 = .ok (.lconst 0, 1) := by decide +kernel
theorem dX1_arrange_106 : decode cX1_arrange 106 = .ok (.lastore, 1) := by decide +kernel
theorem dX1_arrange_107 : decode cX1_arrange 107 = .ok (.iinc 11 1, 3) := by decide +kernel
theorem dX1_arrange_110 : decode cX1_arrange 110 = .ok (.goto (-29), 3) := by decide +kernel
theorem dX1_arrange_113 : decode cX1_arrange 113 = .ok (.return_, 1) := by decide +kernel
theorem dX1_result_0 : decode cX1_result 0 = .ok (.aload_n 0, 1) := by decide +kernel
theorem dX1_result_1 : decode cX1_result 1 = .ok (.lload_n 1, 1) := by decide +kernel
theorem dX1_result_2 : decode cX1_result 2 = .ok (.lload_n 3, 1) := by decide +kernel
theorem dX1_result_3 : decode cX1_result 3 = .ok (.iload 5, 2) := by decide +kernel
theorem dX1_result_5 : decode cX1_result 5 = .ok (.iconst 0, 1) := by decide +kernel
theorem dX1_result_6 : decode cX1_result 6 = .ok (.iconst 0, 1) := by decide +kernel
theorem dX1_result_7 : decode cX1_result 7 = .ok (.invokevirtual 29, 3) := by decide +kernel
theorem dX1_result_10 : decode cX1_result 10 = .ok (.ireturn, 1) := by decide +kernel
theorem dX1_outcome_0 : decode cX1_outcome 0 = .ok (.aload_n 0, 1) := by decide +kernel
theorem dX1_outcome_1 : decode cX1_outcome 1 = .ok (.iload 6, 2) := by decide +kernel
theorem dX1_outcome_3 : decode cX1_outcome 3 = .ok (.invokevirtual 33, 3) := by decide +kernel
theorem dX1_outcome_6 : decode cX1_outcome 6 = .ok (.iconst 1, 1) := by decide +kernel
theorem dX1_outcome_7 : decode cX1_outcome 7 = .ok (.isub, 1) := by decide +kernel
theorem dX1_outcome_8 : decode cX1_outcome 8 = .ok (.istore 8, 2) := by decide +kernel
theorem dX1_outcome_10 : decode cX1_outcome 10 = .ok (.iload 8, 2) := by decide +kernel
theorem dX1_outcome_12 : decode cX1_outcome 12 = .ok (.ifCond .lt 6, 3) := by decide +kernel
theorem dX1_outcome_15 : decode cX1_outcome 15 = .ok (.iload 8, 2) := by decide +kernel
theorem dX1_outcome_17 : decode cX1_outcome 17 = .ok (.ireturn, 1) := by decide +kernel
theorem dX1_outcome_18 : decode cX1_outcome 18 = .ok (.iload 7, 2) := by decide +kernel
theorem dX1_outcome_20 : decode cX1_outcome 20 = .ok (.ifCond .eq 8, 3) := by decide +kernel
theorem dX1_outcome_23 : decode cX1_outcome 23 = .ok (.iload 5, 2) := by decide +kernel
theorem dX1_outcome_25 : decode cX1_outcome 25 = .ok (.ifCond .ne 28, 3) := by decide +kernel
theorem dX1_outcome_28 : decode cX1_outcome 28 = .ok (.aload_n 0, 1) := by decide +kernel
theorem dX1_outcome_29 : decode cX1_outcome 29 = .ok (.getfield 18, 3) := by decide +kernel
theorem dX1_outcome_32 : decode cX1_outcome 32 = .ok (.lload_n 1, 1) := by decide +kernel
theorem dX1_outcome_33 : decode cX1_outcome 33 = .ok (.aload_n 0, 1) := by decide +kernel
theorem dX1_outcome_34 : decode cX1_outcome 34 = .ok (.getfield 22, 3) := by decide +kernel
theorem dX1_outcome_37 : decode cX1_outcome 37 = .ok (.aload_n 0, 1) := by decide +kernel
theorem dX1_outcome_38 : decode cX1_outcome 38 = .ok (.getfield 26, 3) := by decide +kernel
theorem dX1_outcome_41 : decode cX1_outcome 41 = .ok (.invokevirtual 37, 3) := by decide +kernel
theorem dX1_outcome_44 : decode cX1_outcome 44 = .ok (.ifCond .eq 9, 3) := by decide +kernel
theorem dX1_outcome_47 : decode cX1_outcome 47 = .ok (.iconst 1, 1) := by decide +kernel
theorem dX1_outcome_48 : decode cX1_outcome 48 = .ok (.istore 8, 2) := by decide +kernel
theorem dX1_outcome_50 : decode cX1_outcome 50 = .ok (.goto 54, 3) := by decide +kernel
theorem dX1_outcome_53 : decode cX1_outcome 53 = .ok (.iload 7, 2) := by decide +kernel
theorem dX1_outcome_55 : decode cX1_outcome 55 = .ok (.ifCond .eq 8, 3) := by decide +kernel
theorem dX1_outcome_58 : decode cX1_outcome 58 = .ok (.iload 5, 2) := by decide +kernel
theorem dX1_outcome_60 : decode cX1_outcome 60 = .ok (.ifCond .eq 30, 3) := by decide +kernel
theorem dX1_outcome_63 : decode cX1_outcome 63 = .ok (.aload_n 0, 1) := by decide +kernel
theorem dX1_outcome_64 : decode cX1_outcome 64 = .ok (.getfield 18, 3) := by decide +kernel
theorem dX1_outcome_67 : decode cX1_outcome 67 = .ok (.lload_n 1, 1) := by decide +kernel
theorem dX1_outcome_68 : decode cX1_outcome 68 = .ok (.lload_n 3, 1) := by decide +kernel
theorem dX1_outcome_69 : decode cX1_outcome 69 = .ok (.lor, 1) := by decide +kernel
theorem dX1_outcome_70 : decode cX1_outcome 70 = .ok (.aload_n 0, 1) := by decide +kernel
theorem dX1_outcome_71 : decode cX1_outcome 71 = .ok (.getfield 22, 3) := by decide +kernel
theorem dX1_outcome_74 : decode cX1_outcome 74 = .ok (.aload_n 0, 1) := by decide +kernel
theorem dX1_outcome_75 : decode cX1_outcome 75 = .ok (.getfield 26, 3) := by decide +kernel
theorem dX1_outcome_78 : decode cX1_outcome 78 = .ok (.invokevirtual 37, 3) := by decide +kernel
theorem dX1_outcome_81 : decode cX1_outcome 81 = .ok (.ifCond .ne 9, 3) := by decide +kernel
theorem dX1_outcome_84 : decode cX1_outcome 84 = .ok (.iconst 0, 1) := by decide +kernel
theorem dX1_outcome_85 : decode cX1_outcome 85 = .ok (.istore 8, 2) := by decide +kernel
theorem dX1_outcome_87 : decode cX1_outcome 87 = .ok (.goto 17, 3) := by decide +kernel
theorem dX1_outcome_90 : decode cX1_outcome 90 = .ok (.aload_n 0, 1) := by decide +kernel
theorem dX1_outcome_91 : decode cX1_outcome 91 = .ok (.lload_n 1, 1) := by decide +kernel
theorem dX1_outcome_92 : decode cX1_outcome 92 = .ok (.lload_n 3, 1) := by decide +kernel
theorem dX1_outcome_93 : decode cX1_outcome 93 = .ok (.iload 5, 2) := by decide +kernel
theorem dX1_outcome_95 : decode cX1_outcome 95 = .ok (.iload 6, 2) := by decide +kernel
theorem dX1_outcome_97 : decode cX1_outcome 97 = .ok (.iload 7, 2) := by decide +kernel
theorem dX1_outcome_99 : decode cX1_outcome 99 = .ok (.invokevirtual 43, 3) := by decide +kernel
theorem dX1_outcome_102 : decode cX1_outcome 102 = .ok (.istore 8, 2) := by decide +kernel
theorem dX1_outcome_104 : decode cX1_outcome 104 = .ok (.aload_n 0, 1) := by decide +kernel
theorem dX1_outcome_105 : decode cX1_outcome 105 = .ok (.iload 6, 2) := by decide +kernel
theorem dX1_outcome_107 : decode cX1_outcome 107 = .ok (.iload 8, 2) := by decide +kernel
theorem dX1_outcome_109 : decode cX1_outcome 109 = .ok (.iconst 1, 1) := by decide +kernel
theorem dX1_outcome_110 : decode cX1_outcome 110 = .ok (.iadd, 1) := by decide +kernel
theorem dX1_outcome_111 : decode cX1_outcome 111 = .ok (.invokevirtual 46, 3) := by decide +kernel
theorem dX1_outcome_114 : decode cX1_outcome 114 = .ok (.iload 8, 2) := by decide +kernel
theorem dX1_outcome_116 : decode cX1_outcome 116 = .ok (.ireturn, 1) := by decide +kernel
theorem dX1_bestOutcome_0 : decode cX1_bestOutcome 0 = .ok (.iconst (-1), 1) := by decide +kernel
theorem dX1_bestOutcome_1 : decode cX1_bestOutcome 1 = .ok (.istore 8, 2) := by decide +kernel
theorem dX1_bestOutcome_3 : decode cX1_bestOutcome 3 = .ok (.iload 5, 2) := by decide +kernel
theorem dX1_bestOutcome_5 : decode cX1_bestOutcome 5 = .ok (.ifCond .eq 7, 3) := by decide +kernel
theorem dX1_bestOutcome_8 : decode cX1_bestOutcome 8 = .ok (.iconst 1, 1) := by decide +kernel
theorem dX1_bestOutcome_9 : decode cX1_bestOutcome 9 = .ok (.goto 4, 3) := by decide +kernel
theorem dX1_bestOutcome_12 : decode cX1_bestOutcome 12 = .ok (.iconst 2, 1) := by decide +kernel
theorem dX1_bestOutcome_13 : decode cX1_bestOutcome 13 = .ok (.istore 9, 2) := by decide +kernel
theorem dX1_bestOutcome_15 : decode cX1_bestOutcome 15 = .ok (.iconst 0, 1) := by decide +kernel
theorem dX1_bestOutcome_16 : decode cX1_bestOutcome 16 = .ok (.istore 10, 2) := by decide +kernel
theorem dX1_bestOutcome_18 : decode cX1_bestOutcome 18 = .ok (.iload 10, 2) := by decide +kernel
theorem dX1_bestOutcome_20 : decode cX1_bestOutcome 20 = .ok (.bipush 9, 2) := by decide +kernel
theorem dX1_bestOutcome_22 : decode cX1_bestOutcome 22 = .ok (.if_icmp .ge 110, 3) := by decide +kernel
theorem dX1_bestOutcome_25 : decode cX1_bestOutcome 25 = .ok (.iload 7, 2) := by decide +kernel
theorem dX1_bestOutcome_27 : decode cX1_bestOutcome 27 = .ok (.bipush 9, 2) := by decide +kernel
theorem dX1_bestOutcome_29 : decode cX1_bestOutcome 29 = .ok (.if_icmp .ge 103, 3) := by decide +kernel
theorem dX1_bestOutcome_32 : decode cX1_bestOutcome 32 = .ok (.aload_n 0, 1) := by decide +kernel
theorem dX1_bestOutcome_33 : decode cX1_bestOutcome 33 = .ok (.getfield 9, 3) := by decide +kernel
theorem dX1_bestOutcome_36 : decode cX1_bestOutcome 36 = .ok (.iload 10, 2) := by decide +kernel
theorem dX1_bestOutcome_38 : decode cX1_bestOutcome 38 = .ok (.laload, 1) := by decide +kernel
theorem dX1_bestOutcome_39 : decode cX1_bestOutcome 39 = .ok (.lstore 11, 2) := by decide +kernel
theorem dX1_bestOutcome_41 : decode cX1_bestOutcome 41 = .ok (.lload_n 3, 1) := by decide +kernel
theorem dX1_bestOutcome_42 : decode cX1_bestOutcome 42 = .ok (.lload 11, 2) := by decide +kernel
theorem dX1_bestOutcome_44 : decode cX1_bestOutcome 44 = .ok (.land, 1) := by decide +kernel
theorem dX1_bestOutcome_45 : decode cX1_bestOutcome 45 = .ok (.lconst 0, 1) := by decide +kernel
theorem dX1_bestOutcome_46 : decode cX1_bestOutcome 46 = .ok (.lcmp, 1) := by decide +kernel
theorem dX1_bestOutcome_47 : decode cX1_bestOutcome 47 = .ok (.ifCond .eq 79, 3) := by decide +kernel
theorem dX1_bestOutcome_50 : decode cX1_bestOutcome 50 = .ok (.iconst 2, 1) := by decide +kernel
theorem dX1_bestOutcome_51 : decode cX1_bestOutcome 51 = .ok (.aload_n 0, 1) := by decide +kernel
theorem dX1_bestOutcome_52 : decode cX1_bestOutcome 52 = .ok (.iload 5, 2) := by decide +kernel
theorem dX1_bestOutcome_54 : decode cX1_bestOutcome 54 = .ok (.ifCond .eq 10, 3) := by decide +kernel
theorem dX1_bestOutcome_57 : decode cX1_bestOutcome 57 = .ok (.lload_n 1, 1) := by decide +kernel
theorem dX1_bestOutcome_58 : decode cX1_bestOutcome 58 = .ok (.lload 11, 2) := by decide +kernel
theorem dX1_bestOutcome_60 : decode cX1_bestOutcome 60 = .ok (.lor, 1) := by decide +kernel
theorem dX1_bestOutcome_61 : decode cX1_bestOutcome 61 = .ok (.goto 4, 3) := by decide +kernel
theorem dX1_bestOutcome_64 : decode cX1_bestOutcome 64 = .ok (.lload_n 1, 1) := by decide +kernel
theorem dX1_bestOutcome_65 : decode cX1_bestOutcome 65 = .ok (.lload_n 3, 1) := by decide +kernel
theorem dX1_bestOutcome_66 : decode cX1_bestOutcome 66 = .ok (.lload 11, 2) := by decide +kernel
theorem dX1_bestOutcome_68 : decode cX1_bestOutcome 68 = .ok (.ldc2_w 50, 3) := by decide +kernel
theorem dX1_bestOutcome_71 : decode cX1_bestOutcome 71 = .ok (.lxor, 1) := by decide +kernel
theorem dX1_bestOutcome_72 : decode cX1_bestOutcome 72 = .ok (.land, 1) := by decide +kernel
theorem dX1_bestOutcome_73 : decode cX1_bestOutcome 73 = .ok (.iload 5, 2) := by decide +kernel
theorem dX1_bestOutcome_75 : decode cX1_bestOutcome 75 = .ok (.ifCond .ne 7, 3) := by decide +kernel
theorem dX1_bestOutcome_78 : decode cX1_bestOutcome 78 = .ok (.iconst 1, 1) := by decide +kernel
theorem dX1_bestOutcome_79 : decode cX1_bestOutcome 79 = .ok (.goto 4, 3) := by decide +kernel
theorem dX1_bestOutcome_82 : decode cX1_bestOutcome 82 = .ok (.iconst 0, 1) := by decide +kernel
theorem dX1_bestOutcome_83 : decode cX1_bestOutcome 83 = .ok (.iload 6, 2) := by decide +kernel
theorem dX1_bestOutcome_85 : decode cX1_bestOutcome 85 = .ok (.iload 9, 2) := by decide +kernel
theorem dX1_bestOutcome_87 : decode cX1_bestOutcome 87 = .ok (.getstatic 52, 3) := by decide +kernel
theorem dX1_bestOutcome_90 : decode cX1_bestOutcome 90 = .ok (.iload 10, 2) := by decide +kernel
theorem dX1_bestOutcome_92 : decode cX1_bestOutcome 92 = .ok (.iaload, 1) := by decide +kernel
theorem dX1_bestOutcome_93 : decode cX1_bestOutcome 93 = .ok (.imul, 1) := by decide +kernel
theorem dX1_bestOutcome_94 : decode cX1_bestOutcome 94 = .ok (.iadd, 1) := by decide +kernel
theorem dX1_bestOutcome_95 : decode cX1_bestOutcome 95 = .ok (.iload 7, 2) := by decide +kernel
theorem dX1_bestOutcome_97 : decode cX1_bestOutcome 97 = .ok (.iconst 1, 1) := by decide +kernel
theorem dX1_bestOutcome_98 : decode cX1_bestOutcome 98 = .ok (.iadd, 1) := by decide +kernel
theorem dX1_bestOutcome_99 : decode cX1_bestOutcome 99 = .ok (.invokevirtual 29, 3) := by decide +kernel
theorem dX1_bestOutcome_102 : decode cX1_bestOutcome 102 = .ok (.iadd, 1) := by decide +kernel
theorem dX1_bestOutcome_103 : decode cX1_bestOutcome 103 = .ok (.istore 13, 2) := by decide +kernel
theorem dX1_bestOutcome_105 : decode cX1_bestOutcome 105 = .ok (.iload 8, 2) := by decide +kernel
theorem dX1_bestOutcome_107 : decode cX1_bestOutcome 107 = .ok (.ifCond .ge 8, 3) := by decide +kernel
theorem dX1_bestOutcome_110 : decode cX1_bestOutcome 110 = .ok (.iload 13, 2) := by decide +kernel
theorem dX1_bestOutcome_112 : decode cX1_bestOutcome 112 = .ok (.goto 12, 3) := by decide +kernel
theorem dX1_bestOutcome_115 : decode cX1_bestOutcome 115 = .ok (.iload 8, 2) := by decide +kernel
theorem dX1_bestOutcome_117 : decode cX1_bestOutcome 117 = .ok (.iload 13, 2) := by decide +kernel
theorem dX1_bestOutcome_119 : decode cX1_bestOutcome 119 = .ok (.iload 5, 2) := by decide +kernel
theorem dX1_bestOutcome_121 : decode cX1_bestOutcome 121 = .ok (.invokestatic 56, 3) := by decide +kernel
theorem dX1_bestOutcome_124 : decode cX1_bestOutcome 124 = .ok (.istore 8, 2) := by decide +kernel
theorem dX1_bestOutcome_126 : decode cX1_bestOutcome 126 = .ok (.iinc 10 1, 3) := by decide +kernel
theorem dX1_bestOutcome_129 : decode cX1_bestOutcome 129 = .ok (.goto (-111), 3) := by decide +kernel
theorem dX1_bestOutcome_132 : decode cX1_bestOutcome 132 = .ok (.iload 8, 2) := by decide +kernel
theorem dX1_bestOutcome_134 : decode cX1_bestOutcome 134 = .ok (.ireturn, 1) := by decide +kernel
theorem dX1_better_0 : decode cX1_better 0 = .ok (.iload_n 0, 1) := by decide +kernel
theorem dX1_better_1 : decode cX1_better 1 = .ok (.invokestatic 60, 3) := by decide +kernel
theorem dX1_better_4 : decode cX1_better 4 = .ok (.iload_n 1, 1) := by decide +kernel
theorem dX1_better_5 : decode cX1_better 5 = .ok (.invokestatic 60, 3) := by decide +kernel
theorem dX1_better_8 : decode cX1_better 8 = .ok (.if_icmp .eq 17, 3) := by decide +kernel
theorem dX1_better_11 : decode cX1_better 11 = .ok (.iload_n 1, 1) := by decide +kernel
theorem dX1_better_12 : decode cX1_better 12 = .ok (.invokestatic 60, 3) := by decide +kernel
theorem dX1_better_15 : decode cX1_better 15 = .ok (.iload_n 2, 1) := by decide +kernel
theorem dX1_better_16 : decode cX1_better 16 = .ok (.if_icmp .ne 7, 3) := by decide +kernel
theorem dX1_better_19 : decode cX1_better 19 = .ok (.iload_n 1, 1) := by decide +kernel
theorem dX1_better_20 : decode cX1_better 20 = .ok (.goto 4, 3) := by decide +kernel
theorem dX1_better_23 : decode cX1_better 23 = .ok (.iload_n 0, 1) := by decide +kernel
theorem dX1_better_24 : decode cX1_better 24 = .ok (.ireturn, 1) := by decide +kernel
theorem dX1_better_25 : decode cX1_better 25 = .ok (.iload_n 1, 1) := by decide +kernel
theorem dX1_better_26 : decode cX1_better 26 = .ok (.invokestatic 60, 3) := by decide +kernel
theorem dX1_better_29 : decode cX1_better 29 = .ok (.iload_n 2, 1) := by decide +kernel
theorem dX1_better_30 : decode cX1_better 30 = .ok (.if_icmp .ne 11, 3) := by decide +kernel
theorem dX1_better_33 : decode cX1_better 33 = .ok (.iload_n 0, 1) := by decide +kernel
theorem dX1_better_34 : decode cX1_better 34 = .ok (.iload_n 1, 1) := by decide +kernel
theorem dX1_better_35 : decode cX1_better 35 = .ok (.invokestatic 64, 3) := by decide +kernel
theorem dX1_better_38 : decode cX1_better 38 = .ok (.goto 8, 3) := by decide +kernel
theorem dX1_better_41 : decode cX1_better 41 = .ok (.iload_n 0, 1) := by decide +kernel
theorem dX1_better_42 : decode cX1_better 42 = .ok (.iload_n 1, 1) := by decide +kernel
theorem dX1_better_43 : decode cX1_better 43 = .ok (.invokestatic 70, 3) := by decide +kernel
theorem dX1_better_46 : decode cX1_better 46 = .ok (.ireturn, 1) := by decide +kernel
theorem dX1_winningSpots_0 : decode cX1_winningSpots 0 = .ok (.lconst 0, 1) := by decide +kernel
theorem dX1_winningSpots_1 : decode cX1_winningSpots 1 = .ok (.lstore 6, 2) := by decide +kernel
theorem dX1_winningSpots_3 : decode cX1_winningSpots 3 = .ok (.aload_n 0, 1) := by decide +kernel
theorem dX1_winningSpots_4 : decode cX1_winningSpots 4 = .ok (.lload_n 1, 1) := by decide +kernel
theorem dX1_winningSpots_5 : decode cX1_winningSpots 5 = .ok (.lload_n 3, 1) := by decide +kernel
theorem dX1_winningSpots_6 : decode cX1_winningSpots 6 = .ok (.iload 5, 2) := by decide +kernel
theorem dX1_winningSpots_8 : decode cX1_winningSpots 8 = .ok (.invokevirtual 73, 3) := by decide +kernel
theorem dX1_winningSpots_11 : decode cX1_winningSpots 11 = .ok (.invokestatic 77, 3) := by decide +kernel
theorem dX1_winningSpots_14 : decode cX1_winningSpots 14 = .ok (.ifCond .ne 6, 3) := by decide +kernel
theorem dX1_winningSpots_17 : decode cX1_winningSpots 17 = .ok (.lload 6, 2) := by decide +kernel
theorem dX1_winningSpots_19 : decode cX1_winningSpots 19 = .ok (.lreturn, 1) := by decide +kernel
theorem dX1_winningSpots_20 : decode cX1_winningSpots 20 = .ok (.iload 5, 2) := by decide +kernel
theorem dX1_winningSpots_22 : decode cX1_winningSpots 22 = .ok (.ifCond .eq 7, 3) := by decide +kernel
theorem dX1_winningSpots_25 : decode cX1_winningSpots 25 = .ok (.iconst 1, 1) := by decide +kernel
theorem dX1_winningSpots_26 : decode cX1_winningSpots 26 = .ok (.goto 4, 3) := by decide +kernel
theorem dX1_winningSpots_29 : decode cX1_winningSpots 29 = .ok (.iconst 2, 1) := by decide +kernel
theorem dX1_winningSpots_30 : decode cX1_winningSpots 30 = .ok (.istore 8, 2) := by decide +kernel
theorem dX1_winningSpots_32 : decode cX1_winningSpots 32 = .ok (.iconst 0, 1) := by decide +kernel
theorem dX1_winningSpots_33 : decode cX1_winningSpots 33 = .ok (.istore 9, 2) := by decide +kernel
theorem dX1_winningSpots_35 : decode cX1_winningSpots 35 = .ok (.iload 9, 2) := by decide +kernel
theorem dX1_winningSpots_37 : decode cX1_winningSpots 37 = .ok (.bipush 9, 2) := by decide +kernel
theorem dX1_winningSpots_39 : decode cX1_winningSpots 39 = .ok (.if_icmp .ge 96, 3) := by decide +kernel
theorem dX1_winningSpots_42 : decode cX1_winningSpots 42 = .ok (.lload_n 3, 1) := by decide +kernel
theorem dX1_winningSpots_43 : decode cX1_winningSpots 43 = .ok (.aload_n 0, 1) := by decide +kernel
theorem dX1_winningSpots_44 : decode cX1_winningSpots 44 = .ok (.getfield 9, 3) := by decide +kernel
theorem dX1_winningSpots_47 : decode cX1_winningSpots 47 = .ok (.iload 9, 2) := by decide +kernel
theorem dX1_winningSpots_49 : decode cX1_winningSpots 49 = .ok (.laload, 1) := by decide +kernel
theorem dX1_winningSpots_50 : decode cX1_winningSpots 50 = .ok (.land, 1) := by decide +kernel
theorem dX1_winningSpots_51 : decode cX1_winningSpots 51 = .ok (.lconst 0, 1) := by decide +kernel
theorem dX1_winningSpots_52 : decode cX1_winningSpots 52 = .ok (.lcmp, 1) := by decide +kernel
theorem dX1_winningSpots_53 : decode cX1_winningSpots 53 = .ok (.ifCond .eq 82, 3) := by decide +kernel
theorem dX1_winningSpots_56 : decode cX1_winningSpots 56 = .ok (.aload_n 0, 1) := by decide +kernel
theorem dX1_winningSpots_57 : decode cX1_winningSpots 57 = .ok (.getfield 9, 3) := by decide +kernel
theorem dX1_winningSpots_60 : decode cX1_winningSpots 60 = .ok (.iload 9, 2) := by decide +kernel
theorem dX1_winningSpots_62 : decode cX1_winningSpots 62 = .ok (.laload, 1) := by decide +kernel
theorem dX1_winningSpots_63 : decode cX1_winningSpots 63 = .ok (.lstore 10, 2) := by decide +kernel
theorem dX1_winningSpots_65 : decode cX1_winningSpots 65 = .ok (.aload_n 0, 1) := by decide +kernel
theorem dX1_winningSpots_66 : decode cX1_winningSpots 66 = .ok (.iload 5, 2) := by decide +kernel
theorem dX1_winningSpots_68 : decode cX1_winningSpots 68 = .ok (.ifCond .eq 10, 3) := by decide +kernel
theorem dX1_winningSpots_71 : decode cX1_winningSpots 71 = .ok (.lload_n 1, 1) := by decide +kernel
theorem dX1_winningSpots_72 : decode cX1_winningSpots 72 = .ok (.lload 10, 2) := by decide +kernel
theorem dX1_winningSpots_74 : decode cX1_winningSpots 74 = .ok (.lor, 1) := by decide +kernel
theorem dX1_winningSpots_75 : decode cX1_winningSpots 75 = .ok (.goto 4, 3) := by decide +kernel
theorem dX1_winningSpots_78 : decode cX1_winningSpots 78 = .ok (.lload_n 1, 1) := by decide +kernel
theorem dX1_winningSpots_79 : decode cX1_winningSpots 79 = .ok (.lload_n 3, 1) := by decide +kernel
theorem dX1_winningSpots_80 : decode cX1_winningSpots 80 = .ok (.lload 10, 2) := by decide +kernel
theorem dX1_winningSpots_82 : decode cX1_winningSpots 82 = .ok (.ldc2_w 50, 3) := by decide +kernel
theorem dX1_winningSpots_85 : decode cX1_winningSpots 85 = .ok (.lxor, 1) := by decide +kernel
theorem dX1_winningSpots_86 : decode cX1_winningSpots 86 = .ok (.land, 1) := by decide +kernel
theorem dX1_winningSpots_87 : decode cX1_winningSpots 87 = .ok (.iload 5, 2) := by decide +kernel
theorem dX1_winningSpots_89 : decode cX1_winningSpots 89 = .ok (.ifCond .ne 7, 3) := by decide +kernel
theorem dX1_winningSpots_92 : decode cX1_winningSpots 92 = .ok (.iconst 1, 1) := by decide +kernel
theorem dX1_winningSpots_93 : decode cX1_winningSpots 93 = .ok (.goto 4, 3) := by decide +kernel
theorem dX1_winningSpots_96 : decode cX1_winningSpots 96 = .ok (.iconst 0, 1) := by decide +kernel
theorem dX1_winningSpots_97 : decode cX1_winningSpots 97 = .ok (.iload 8, 2) := by decide +kernel
theorem dX1_winningSpots_99 : decode cX1_winningSpots 99 = .ok (.getstatic 52, 3) := by decide +kernel
theorem dX1_winningSpots_102 : decode cX1_winningSpots 102 = .ok (.iload 9, 2) := by decide +kernel
theorem dX1_winningSpots_104 : decode cX1_winningSpots 104 = .ok (.iaload, 1) := by decide +kernel
theorem dX1_winningSpots_105 : decode cX1_winningSpots 105 = .ok (.imul, 1) := by decide +kernel
theorem dX1_winningSpots_106 : decode cX1_winningSpots 106 = .ok (.iconst 1, 1) := by decide +kernel
theorem dX1_winningSpots_107 : decode cX1_winningSpots 107 = .ok (.invokevirtual 29, 3) := by decide +kernel
theorem dX1_winningSpots_110 : decode cX1_winningSpots 110 = .ok (.istore 12, 2) := by decide +kernel
theorem dX1_winningSpots_112 : decode cX1_winningSpots 112 = .ok (.iload 12, 2) := by decide +kernel
theorem dX1_winningSpots_114 : decode cX1_winningSpots 114 = .ok (.invokestatic 60, 3) := by decide +kernel
theorem dX1_winningSpots_117 : decode cX1_winningSpots 117 = .ok (.iload 5, 2) := by decide +kernel
theorem dX1_winningSpots_119 : decode cX1_winningSpots 119 = .ok (.if_icmp .ne 10, 3) := by decide +kernel
theorem dX1_winningSpots_122 : decode cX1_winningSpots 122 = .ok (.lload 6, 2) := by decide +kernel
theorem dX1_winningSpots_124 : decode cX1_winningSpots 124 = .ok (.lload 10, 2) := by decide +kernel
theorem dX1_winningSpots_126 : decode cX1_winningSpots 126 = .ok (.lor, 1) := by decide +kernel
theorem dX1_winningSpots_127 : decode cX1_winningSpots 127 = .ok (.lstore 6, 2) := by decide +kernel
theorem dX1_winningSpots_129 : decode cX1_winningSpots 129 = .ok (.iinc 9 1, 3) := by decide +kernel
theorem dX1_winningSpots_132 : decode cX1_winningSpots 132 = .ok (.goto (-97), 3) := by decide +kernel
theorem dX1_winningSpots_135 : decode cX1_winningSpots 135 = .ok (.lload 6, 2) := by decide +kernel
theorem dX1_winningSpots_137 : decode cX1_winningSpots 137 = .ok (.lreturn, 1) := by decide +kernel
theorem dX1_recall_0 : decode cX1_recall 0 = .ok (.iload_n 1, 1) := by decide +kernel
theorem dX1_recall_1 : decode cX1_recall 1 = .ok (.bipush 12, 2) := by decide +kernel
theorem dX1_recall_3 : decode cX1_recall 3 = .ok (.idiv, 1) := by decide +kernel
theorem dX1_recall_4 : decode cX1_recall 4 = .ok (.istore_n 2, 1) := by decide +kernel
theorem dX1_recall_5 : decode cX1_recall 5 = .ok (.iload_n 1, 1) := by decide +kernel
theorem dX1_recall_6 : decode cX1_recall 6 = .ok (.ifCond .lt 10, 3) := by decide +kernel
theorem dX1_recall_9 : decode cX1_recall 9 = .ok (.iload_n 2, 1) := by decide +kernel
theorem dX1_recall_10 : decode cX1_recall 10 = .ok (.sipush 1641, 3) := by decide +kernel
theorem dX1_recall_13 : decode cX1_recall 13 = .ok (.if_icmp .lt 5, 3) := by decide +kernel
theorem dX1_recall_16 : decode cX1_recall 16 = .ok (.iconst 0, 1) := by decide +kernel
theorem dX1_recall_17 : decode cX1_recall 17 = .ok (.ireturn, 1) := by decide +kernel
theorem dX1_recall_18 : decode cX1_recall 18 = .ok (.aload_n 0, 1) := by decide +kernel
theorem dX1_recall_19 : decode cX1_recall 19 = .ok (.getfield 15, 3) := by decide +kernel
theorem dX1_recall_22 : decode cX1_recall 22 = .ok (.iload_n 2, 1) := by decide +kernel
theorem dX1_recall_23 : decode cX1_recall 23 = .ok (.laload, 1) := by decide +kernel
theorem dX1_recall_24 : decode cX1_recall 24 = .ok (.iload_n 1, 1) := by decide +kernel
theorem dX1_recall_25 : decode cX1_recall 25 = .ok (.bipush 12, 2) := by decide +kernel
theorem dX1_recall_27 : decode cX1_recall 27 = .ok (.irem, 1) := by decide +kernel
theorem dX1_recall_28 : decode cX1_recall 28 = .ok (.iconst 5, 1) := by decide +kernel
theorem dX1_recall_29 : decode cX1_recall 29 = .ok (.imul, 1) := by decide +kernel
theorem dX1_recall_30 : decode cX1_recall 30 = .ok (.lushr, 1) := by decide +kernel
theorem dX1_recall_31 : decode cX1_recall 31 = .ok (.l2i, 1) := by decide +kernel
theorem dX1_recall_32 : decode cX1_recall 32 = .ok (.bipush 31, 2) := by decide +kernel
theorem dX1_recall_34 : decode cX1_recall 34 = .ok (.iand, 1) := by decide +kernel
theorem dX1_recall_35 : decode cX1_recall 35 = .ok (.ireturn, 1) := by decide +kernel
theorem dX1_remember_0 : decode cX1_remember 0 = .ok (.iload_n 1, 1) := by decide +kernel
theorem dX1_remember_1 : decode cX1_remember 1 = .ok (.bipush 12, 2) := by decide +kernel
theorem dX1_remember_3 : decode cX1_remember 3 = .ok (.idiv, 1) := by decide +kernel
theorem dX1_remember_4 : decode cX1_remember 4 = .ok (.istore_n 3, 1) := by decide +kernel
theorem dX1_remember_5 : decode cX1_remember 5 = .ok (.iload_n 1, 1) := by decide +kernel
theorem dX1_remember_6 : decode cX1_remember 6 = .ok (.ifCond .lt 28, 3) := by decide +kernel
theorem dX1_remember_9 : decode cX1_remember 9 = .ok (.iload_n 3, 1) := by decide +kernel
theorem dX1_remember_10 : decode cX1_remember 10 = .ok (.sipush 1641, 3) := by decide +kernel
theorem dX1_remember_13 : decode cX1_remember 13 = .ok (.if_icmp .ge 21, 3) := by decide +kernel
theorem dX1_remember_16 : decode cX1_remember 16 = .ok (.aload_n 0, 1) := by decide +kernel
theorem dX1_remember_17 : decode cX1_remember 17 = .ok (.getfield 15, 3) := by decide +kernel
theorem dX1_remember_20 : decode cX1_remember 20 = .ok (.iload_n 3, 1) := by decide +kernel
theorem dX1_remember_21 : decode cX1_remember 21 = .ok (.dup2, 1) := by decide +kernel
theorem dX1_remember_22 : decode cX1_remember 22 = .ok (.laload, 1) := by decide +kernel
theorem dX1_remember_23 : decode cX1_remember 23 = .ok (.iload_n 2, 1) := by decide +kernel
theorem dX1_remember_24 : decode cX1_remember 24 = .ok (.i2l, 1) := by decide +kernel
theorem dX1_remember_25 : decode cX1_remember 25 = .ok (.iload_n 1, 1) := by decide +kernel
theorem dX1_remember_26 : decode cX1_remember 26 = .ok (.bipush 12, 2) := by decide +kernel
theorem dX1_remember_28 : decode cX1_remember 28 = .ok (.irem, 1) := by decide +kernel
theorem dX1_remember_29 : decode cX1_remember 29 = .ok (.iconst 5, 1) := by decide +kernel
theorem dX1_remember_30 : decode cX1_remember 30 = .ok (.imul, 1) := by decide +kernel
theorem dX1_remember_31 : decode cX1_remember 31 = .ok (.lshl, 1) := by decide +kernel
theorem dX1_remember_32 : decode cX1_remember 32 = .ok (.lor, 1) := by decide +kernel
theorem dX1_remember_33 : decode cX1_remember 33 = .ok (.lastore, 1) := by decide +kernel
theorem dX1_remember_34 : decode cX1_remember 34 = .ok (.return_, 1) := by decide +kernel
theorem dX2_init_0 : decode cX2_init 0 = .ok (.aload_n 0, 1) := by decide +kernel
theorem dX2_init_1 : decode cX2_init 1 = .ok (.invokespecial 3, 3) := by decide +kernel
theorem dX2_init_4 : decode cX2_init 4 = .ok (.aload_n 0, 1) := by decide +kernel
theorem dX2_init_5 : decode cX2_init 5 = .ok (.bipush 64, 2) := by decide +kernel
theorem dX2_init_7 : decode cX2_init 7 = .ok (.newarray .long, 2) := by decide +kernel
theorem dX2_init_9 : decode cX2_init 9 = .ok (.putfield 9, 3) := by decide +kernel
theorem dX2_init_12 : decode cX2_init 12 = .ok (.return_, 1) := by decide +kernel
theorem dX2_compute_0 : decode cX2_compute 0 = .ok (.aload_n 1, 1) := by decide +kernel
theorem dX2_compute_1 : decode cX2_compute 1 = .ok (.getfield 15, 3) := by decide +kernel
theorem dX2_compute_4 : decode cX2_compute 4 = .ok (.astore_n 2, 1) := by decide +kernel
theorem dX2_compute_5 : decode cX2_compute 5 = .ok (.aload_n 1, 1) := by decide +kernel
theorem dX2_compute_6 : decode cX2_compute 6 = .ok (.invokevirtual 21, 3) := by decide +kernel
theorem dX2_compute_9 : decode cX2_compute 9 = .ok (.lstore_n 3, 1) := by decide +kernel
theorem dX2_compute_10 : decode cX2_compute 10 = .ok (.aload_n 0, 1) := by decide +kernel
theorem dX2_compute_11 : decode cX2_compute 11 = .ok (.bipush 12, 2) := by decide +kernel
theorem dX2_compute_13 : decode cX2_compute 13 = .ok (.lload_n 3, 1) := by decide +kernel
theorem dX2_compute_14 : decode cX2_compute 14 = .ok (.invokestatic 25, 3) := by decide +kernel
theorem dX2_compute_17 : decode cX2_compute 17 = .ok (.invokestatic 31, 3) := by decide +kernel
theorem dX2_compute_20 : decode cX2_compute 20 = .ok (.putfield 37, 3) := by decide +kernel
theorem dX2_compute_23 : decode cX2_compute 23 = .ok (.iconst 0, 1) := by decide +kernel
theorem dX2_compute_24 : decode cX2_compute 24 = .ok (.istore 5, 2) := by decide +kernel
theorem dX2_compute_26 : decode cX2_compute 26 = .ok (.iload 5, 2) := by decide +kernel
theorem dX2_compute_28 : decode cX2_compute 28 = .ok (.aload_n 0, 1) := by decide +kernel
theorem dX2_compute_29 : decode cX2_compute 29 = .ok (.getfield 9, 3) := by decide +kernel
theorem dX2_compute_32 : decode cX2_compute 32 = .ok (.arraylength, 1) := by decide +kernel
theorem dX2_compute_33 : decode cX2_compute 33 = .ok (.if_icmp .ge 17, 3) := by decide +kernel
theorem dX2_compute_36 : decode cX2_compute 36 = .ok (.aload_n 0, 1) := by decide +kernel
theorem dX2_compute_37 : decode cX2_compute 37 = .ok (.getfield 9, 3) := by decide +kernel
theorem dX2_compute_40 : decode cX2_compute 40 = .ok (.iload 5, 2) := by decide +kernel
theorem dX2_compute_42 : decode cX2_compute 42 = .ok (.lconst 0, 1) := by decide +kernel
theorem dX2_compute_43 : decode cX2_compute 43 = .ok (.lastore, 1) := by decide +kernel
theorem dX2_compute_44 : decode cX2_compute 44 = .ok (.iinc 5 1, 3) := by decide +kernel
theorem dX2_compute_47 : decode cX2_compute 47 = .ok (.goto (-21), 3) := by decide +kernel
theorem dX2_compute_50 : decode cX2_compute 50 = .ok (.lconst 0, 1) := by decide +kernel
theorem dX2_compute_51 : decode cX2_compute 51 = .ok (.lstore 5, 2) := by decide +kernel
theorem dX2_compute_53 : decode cX2_compute 53 = .ok (.iconst 0, 1) := by decide +kernel
theorem dX2_compute_54 : decode cX2_compute 54 = .ok (.istore 7, 2) := by decide +kernel
theorem dX2_compute_56 : decode cX2_compute 56 = .ok (.iload 7, 2) := by decide +kernel
theorem dX2_compute_58 : decode cX2_compute 58 = .ok (.aload_n 0, 1) := by decide +kernel
theorem dX2_compute_59 : decode cX2_compute 59 = .ok (.invokevirtual 41, 3) := by decide +kernel
theorem dX2_compute_62 : decode cX2_compute 62 = .ok (.if_icmp .ge 60, 3) := by decide +kernel
theorem dX2_compute_65 : decode cX2_compute 65 = .ok (.aload_n 2, 1) := by decide +kernel
theorem dX2_compute_66 : decode cX2_compute 66 = .ok (.aload_n 1, 1) := by decide +kernel
theorem dX2_compute_67 : decode cX2_compute 67 = .ok (.iconst 0, 1) := by decide +kernel
theorem dX2_compute_68 : decode cX2_compute 68 = .ok (.invokevirtual 45, 3) := by decide +kernel
theorem dX2_compute_71 : decode cX2_compute 71 = .ok (.lload 5, 2) := by decide +kernel
theorem dX2_compute_73 : decode cX2_compute 73 = .ok (.lor, 1) := by decide +kernel
theorem dX2_compute_74 : decode cX2_compute 74 = .ok (.aload_n 2, 1) := by decide +kernel
theorem dX2_compute_75 : decode cX2_compute 75 = .ok (.getfield 49, 3) := by decide +kernel
theorem dX2_compute_78 : decode cX2_compute 78 = .ok (.aload_n 2, 1) := by decide +kernel
theorem dX2_compute_79 : decode cX2_compute 79 = .ok (.getfield 55, 3) := by decide +kernel
theorem dX2_compute_82 : decode cX2_compute 82 = .ok (.invokevirtual 58, 3) := by decide +kernel
theorem dX2_compute_85 : decode cX2_compute 85 = .ok (.ifCond .eq 23, 3) := by decide +kernel
theorem dX2_compute_88 : decode cX2_compute 88 = .ok (.aload_n 0, 1) := by decide +kernel
theorem dX2_compute_89 : decode cX2_compute 89 = .ok (.getfield 9, 3) := by decide +kernel
theorem dX2_compute_92 : decode cX2_compute 92 = .ok (.iload 7, 2) := by decide +kernel
theorem dX2_compute_94 : decode cX2_compute 94 = .ok (.bipush 6, 2) := by decide +kernel
theorem dX2_compute_96 : decode cX2_compute 96 = .ok (.iushr, 1) := by decide +kernel
theorem dX2_compute_97 : decode cX2_compute 97 = .ok (.dup2, 1) := by decide +kernel
theorem dX2_compute_98 : decode cX2_compute 98 = .ok (.laload, 1) := by decide +kernel
theorem dX2_compute_99 : decode cX2_compute 99 = .ok (.lconst 1, 1) := by decide +kernel
theorem dX2_compute_100 : decode cX2_compute 100 = .ok (.iload 7, 2) := by decide +kernel
theorem dX2_compute_102 : decode cX2_compute 102 = .ok (.bipush 63, 2) := by decide +kernel
theorem dX2_compute_104 : decode cX2_compute 104 = .ok (.iand, 1) := by decide +kernel
theorem dX2_compute_105 : decode cX2_compute 105 = .ok (.lshl, 1) := by decide +kernel
theorem dX2_compute_106 : decode cX2_compute 106 = .ok (.lor, 1) := by decide +kernel
theorem dX2_compute_107 : decode cX2_compute 107 = .ok (.lastore, 1) := by decide +kernel
theorem dX2_compute_108 : decode cX2_compute 108 = .ok (.lload 5, 2) := by decide +kernel
theorem dX2_compute_110 : decode cX2_compute 110 = .ok (.lload_n 3, 1) := by decide +kernel
theorem dX2_compute_111 : decode cX2_compute 111 = .ok (.invokestatic 62, 3) := by decide +kernel
theorem dX2_compute_114 : decode cX2_compute 114 = .ok (.lstore 5, 2) := by decide +kernel
theorem dX2_compute_116 : decode cX2_compute 116 = .ok (.iinc 7 1, 3) := by decide +kernel
theorem dX2_compute_119 : decode cX2_compute 119 = .ok (.goto (-63), 3) := by decide +kernel
theorem dX2_compute_122 : decode cX2_compute 122 = .ok (.return_, 1) := by decide +kernel
theorem dX2_size_0 : decode cX2_size 0 = .ok (.iconst 1, 1) := by decide +kernel
theorem dX2_size_1 : decode cX2_size 1 = .ok (.aload_n 0, 1) := by decide +kernel
theorem dX2_size_2 : decode cX2_size 2 = .ok (.getfield 37, 3) := by decide +kernel
theorem dX2_size_5 : decode cX2_size 5 = .ok (.ishl, 1) := by decide +kernel
theorem dX2_size_6 : decode cX2_size 6 = .ok (.ireturn, 1) := by decide +kernel
theorem dX2_wonByFirst_0 : decode cX2_wonByFirst 0 = .ok (.iconst 0, 1) := by decide +kernel
theorem dX2_wonByFirst_1 : decode cX2_wonByFirst 1 = .ok (.istore_n 1, 1) := by decide +kernel
theorem dX2_wonByFirst_2 : decode cX2_wonByFirst 2 = .ok (.iconst 0, 1) := by decide +kernel
theorem dX2_wonByFirst_3 : decode cX2_wonByFirst 3 = .ok (.istore_n 2, 1) := by decide +kernel
theorem dX2_wonByFirst_4 : decode cX2_wonByFirst 4 = .ok (.iload_n 2, 1) := by decide +kernel
theorem dX2_wonByFirst_5 : decode cX2_wonByFirst 5 = .ok (.aload_n 0, 1) := by decide +kernel
theorem dX2_wonByFirst_6 : decode cX2_wonByFirst 6 = .ok (.getfield 9, 3) := by decide +kernel
theorem dX2_wonByFirst_9 : decode cX2_wonByFirst 9 = .ok (.arraylength, 1) := by decide +kernel
theorem dX2_wonByFirst_10 : decode cX2_wonByFirst 10 = .ok (.if_icmp .ge 21, 3) := by decide +kernel
theorem dX2_wonByFirst_13 : decode cX2_wonByFirst 13 = .ok (.iload_n 1, 1) := by decide +kernel
theorem dX2_wonByFirst_14 : decode cX2_wonByFirst 14 = .ok (.aload_n 0, 1) := by decide +kernel
theorem dX2_wonByFirst_15 : decode cX2_wonByFirst 15 = .ok (.getfield 9, 3) := by decide +kernel
theorem dX2_wonByFirst_18 : decode cX2_wonByFirst 18 = .ok (.iload_n 2, 1) := by decide +kernel
theorem dX2_wonByFirst_19 : decode cX2_wonByFirst 19 = .ok (.laload, 1) := by decide +kernel
theorem dX2_wonByFirst_20 : decode cX2_wonByFirst 20 = .ok (.invokestatic 25, 3) := by decide +kernel
theorem dX2_wonByFirst_23 : decode cX2_wonByFirst 23 = .ok (.iadd, 1) := by decide +kernel
theorem dX2_wonByFirst_24 : decode cX2_wonByFirst 24 = .ok (.istore_n 1, 1) := by decide +kernel
theorem dX2_wonByFirst_25 : decode cX2_wonByFirst 25 = .ok (.iinc 2 1, 3) := by decide +kernel
theorem dX2_wonByFirst_28 : decode cX2_wonByFirst 28 = .ok (.goto (-24), 3) := by decide +kernel
theorem dX2_wonByFirst_31 : decode cX2_wonByFirst 31 = .ok (.iload_n 1, 1) := by decide +kernel
theorem dX2_wonByFirst_32 : decode cX2_wonByFirst 32 = .ok (.ireturn, 1) := by decide +kernel
theorem dX2_decidedBy_0 : decode cX2_decidedBy 0 = .ok (.iconst 1, 1) := by decide +kernel
theorem dX2_decidedBy_1 : decode cX2_decidedBy 1 = .ok (.iload_n 1, 1) := by decide +kernel
theorem dX2_decidedBy_2 : decode cX2_decidedBy 2 = .ok (.ishl, 1) := by decide +kernel
theorem dX2_decidedBy_3 : decode cX2_decidedBy 3 = .ok (.istore_n 2, 1) := by decide +kernel
theorem dX2_decidedBy_4 : decode cX2_decidedBy 4 = .ok (.iconst 0, 1) := by decide +kernel
theorem dX2_decidedBy_5 : decode cX2_decidedBy 5 = .ok (.istore_n 3, 1) := by decide +kernel
theorem dX2_decidedBy_6 : decode cX2_decidedBy 6 = .ok (.iconst 0, 1) := by decide +kernel
theorem dX2_decidedBy_7 : decode cX2_decidedBy 7 = .ok (.istore 4, 2) := by decide +kernel
theorem dX2_decidedBy_9 : decode cX2_decidedBy 9 = .ok (.iload 4, 2) := by decide +kernel
theorem dX2_decidedBy_11 : decode cX2_decidedBy 11 = .ok (.aload_n 0, 1) := by decide +kernel
theorem dX2_decidedBy_12 : decode cX2_decidedBy 12 = .ok (.invokevirtual 41, 3) := by decide +kernel
theorem dX2_decidedBy_15 : decode cX2_decidedBy 15 = .ok (.if_icmp .ge 36, 3) := by decide +kernel
theorem dX2_decidedBy_18 : decode cX2_decidedBy 18 = .ok (.iload 4, 2) := by decide +kernel
theorem dX2_decidedBy_20 : decode cX2_decidedBy 20 = .ok (.iload_n 2, 1) := by decide +kernel
theorem dX2_decidedBy_21 : decode cX2_decidedBy 21 = .ok (.iand, 1) := by decide +kernel
theorem dX2_decidedBy_22 : decode cX2_decidedBy 22 = .ok (.ifCond .ne 23, 3) := by decide +kernel
theorem dX2_decidedBy_25 : decode cX2_decidedBy 25 = .ok (.aload_n 0, 1) := by decide +kernel
theorem dX2_decidedBy_26 : decode cX2_decidedBy 26 = .ok (.iload 4, 2) := by decide +kernel
theorem dX2_decidedBy_28 : decode cX2_decidedBy 28 = .ok (.invokevirtual 66, 3) := by decide +kernel
theorem dX2_decidedBy_31 : decode cX2_decidedBy 31 = .ok (.aload_n 0, 1) := by decide +kernel
theorem dX2_decidedBy_32 : decode cX2_decidedBy 32 = .ok (.iload 4, 2) := by decide +kernel
theorem dX2_decidedBy_34 : decode cX2_decidedBy 34 = .ok (.iload_n 2, 1) := by decide +kernel
theorem dX2_decidedBy_35 : decode cX2_decidedBy 35 = .ok (.ior, 1) := by decide +kernel
theorem dX2_decidedBy_36 : decode cX2_decidedBy 36 = .ok (.invokevirtual 66, 3) := by decide +kernel
theorem dX2_decidedBy_39 : decode cX2_decidedBy 39 = .ok (.if_icmp .eq 6, 3) := by decide +kernel
theorem dX2_decidedBy_42 : decode cX2_decidedBy 42 = .ok (.iinc 3 1, 3) := by decide +kernel
theorem dX2_decidedBy_45 : decode cX2_decidedBy 45 = .ok (.iinc 4 1, 3) := by decide +kernel
theorem dX2_decidedBy_48 : decode cX2_decidedBy 48 = .ok (.goto (-39), 3) := by decide +kernel
theorem dX2_decidedBy_51 : decode cX2_decidedBy 51 = .ok (.iload_n 3, 1) := by decide +kernel
theorem dX2_decidedBy_52 : decode cX2_decidedBy 52 = .ok (.ireturn, 1) := by decide +kernel
theorem dX2_isWon_0 : decode cX2_isWon 0 = .ok (.iload_n 1, 1) := by decide +kernel
theorem dX2_isWon_1 : decode cX2_isWon 1 = .ok (.bipush 6, 2) := by decide +kernel
theorem dX2_isWon_3 : decode cX2_isWon 3 = .ok (.iushr, 1) := by decide +kernel
theorem dX2_isWon_4 : decode cX2_isWon 4 = .ok (.istore_n 2, 1) := by decide +kernel
theorem dX2_isWon_5 : decode cX2_isWon 5 = .ok (.iload_n 2, 1) := by decide +kernel
theorem dX2_isWon_6 : decode cX2_isWon 6 = .ok (.aload_n 0, 1) := by decide +kernel
theorem dX2_isWon_7 : decode cX2_isWon 7 = .ok (.getfield 9, 3) := by decide +kernel
theorem dX2_isWon_10 : decode cX2_isWon 10 = .ok (.arraylength, 1) := by decide +kernel
theorem dX2_isWon_11 : decode cX2_isWon 11 = .ok (.if_icmp .ge 25, 3) := by decide +kernel
theorem dX2_isWon_14 : decode cX2_isWon 14 = .ok (.aload_n 0, 1) := by decide +kernel
theorem dX2_isWon_15 : decode cX2_isWon 15 = .ok (.getfield 9, 3) := by decide +kernel
theorem dX2_isWon_18 : decode cX2_isWon 18 = .ok (.iload_n 2, 1) := by decide +kernel
theorem dX2_isWon_19 : decode cX2_isWon 19 = .ok (.laload, 1) := by decide +kernel
theorem dX2_isWon_20 : decode cX2_isWon 20 = .ok (.iload_n 1, 1) := by decide +kernel
theorem dX2_isWon_21 : decode cX2_isWon 21 = .ok (.bipush 63, 2) := by decide +kernel
theorem dX2_isWon_23 : decode cX2_isWon 23 = .ok (.iand, 1) := by decide +kernel
theorem dX2_isWon_24 : decode cX2_isWon 24 = .ok (.lushr, 1) := by decide +kernel
theorem dX2_isWon_25 : decode cX2_isWon 25 = .ok (.lconst 1, 1) := by decide +kernel
theorem dX2_isWon_26 : decode cX2_isWon 26 = .ok (.land, 1) := by decide +kernel
theorem dX2_isWon_27 : decode cX2_isWon 27 = .ok (.lconst 0, 1) := by decide +kernel
theorem dX2_isWon_28 : decode cX2_isWon 28 = .ok (.lcmp, 1) := by decide +kernel
theorem dX2_isWon_29 : decode cX2_isWon 29 = .ok (.ifCond .eq 7, 3) := by decide +kernel
theorem dX2_isWon_32 : decode cX2_isWon 32 = .ok (.iconst 1, 1) := by decide +kernel
theorem dX2_isWon_33 : decode cX2_isWon 33 = .ok (.goto 4, 3) := by decide +kernel
theorem dX2_isWon_36 : decode cX2_isWon 36 = .ok (.iconst 0, 1) := by decide +kernel
theorem dX2_isWon_37 : decode cX2_isWon 37 = .ok (.ireturn, 1) := by decide +kernel
theorem dX3_init_0 : decode cX3_init 0 = .ok (.aload_n 0, 1) := by decide +kernel
theorem dX3_init_1 : decode cX3_init 1 = .ok (.invokespecial 3, 3) := by decide +kernel
theorem dX3_init_4 : decode cX3_init 4 = .ok (.aload_n 0, 1) := by decide +kernel
theorem dX3_init_5 : decode cX3_init 5 = .ok (.bipush 50, 2) := by decide +kernel
theorem dX3_init_7 : decode cX3_init 7 = .ok (.newarray .int, 2) := by decide +kernel
theorem dX3_init_9 : decode cX3_init 9 = .ok (.putfield 9, 3) := by decide +kernel
theorem dX3_init_12 : decode cX3_init 12 = .ok (.aload_n 0, 1) := by decide +kernel
theorem dX3_init_13 : decode cX3_init 13 = .ok (.aload_n 1, 1) := by decide +kernel
theorem dX3_init_14 : decode cX3_init 14 = .ok (.putfield 15, 3) := by decide +kernel
theorem dX3_init_17 : decode cX3_init 17 = .ok (.return_, 1) := by decide +kernel
theorem dX3_start_0 : decode cX3_start 0 = .ok (.aload_n 0, 1) := by decide +kernel
theorem dX3_start_1 : decode cX3_start 1 = .ok (.aload_n 1, 1) := by decide +kernel
theorem dX3_start_2 : decode cX3_start 2 = .ok (.putfield 15, 3) := by decide +kernel
theorem dX3_start_5 : decode cX3_start 5 = .ok (.aload_n 0, 1) := by decide +kernel
theorem dX3_start_6 : decode cX3_start 6 = .ok (.iconst 0, 1) := by decide +kernel
theorem dX3_start_7 : decode cX3_start 7 = .ok (.putfield 19, 3) := by decide +kernel
theorem dX3_start_10 : decode cX3_start 10 = .ok (.aload_n 0, 1) := by decide +kernel
theorem dX3_start_11 : decode cX3_start 11 = .ok (.iconst 0, 1) := by decide +kernel
theorem dX3_start_12 : decode cX3_start 12 = .ok (.putfield 23, 3) := by decide +kernel
theorem dX3_start_15 : decode cX3_start 15 = .ok (.aload_n 0, 1) := by decide +kernel
theorem dX3_start_16 : decode cX3_start 16 = .ok (.lconst 0, 1) := by decide +kernel
theorem dX3_start_17 : decode cX3_start 17 = .ok (.putfield 26, 3) := by decide +kernel
theorem dX3_start_20 : decode cX3_start 20 = .ok (.aload_n 0, 1) := by decide +kernel
theorem dX3_start_21 : decode cX3_start 21 = .ok (.lconst 0, 1) := by decide +kernel
theorem dX3_start_22 : decode cX3_start 22 = .ok (.putfield 30, 3) := by decide +kernel
theorem dX3_start_25 : decode cX3_start 25 = .ok (.return_, 1) := by decide +kernel
theorem dX3_copyFrom_0 : decode cX3_copyFrom 0 = .ok (.aload_n 0, 1) := by decide +kernel
theorem dX3_copyFrom_1 : decode cX3_copyFrom 1 = .ok (.aload_n 1, 1) := by decide +kernel
theorem dX3_copyFrom_2 : decode cX3_copyFrom 2 = .ok (.getfield 15, 3) := by decide +kernel
theorem dX3_copyFrom_5 : decode cX3_copyFrom 5 = .ok (.putfield 15, 3) := by decide +kernel
theorem dX3_copyFrom_8 : decode cX3_copyFrom 8 = .ok (.aload_n 0, 1) := by decide +kernel
theorem dX3_copyFrom_9 : decode cX3_copyFrom 9 = .ok (.aload_n 1, 1) := by decide +kernel
theorem dX3_copyFrom_10 : decode cX3_copyFrom 10 = .ok (.getfield 19, 3) := by decide +kernel
theorem dX3_copyFrom_13 : decode cX3_copyFrom 13 = .ok (.putfield 19, 3) := by decide +kernel
theorem dX3_copyFrom_16 : decode cX3_copyFrom 16 = .ok (.aload_n 0, 1) := by decide +kernel
theorem dX3_copyFrom_17 : decode cX3_copyFrom 17 = .ok (.aload_n 1, 1) := by decide +kernel
theorem dX3_copyFrom_18 : decode cX3_copyFrom 18 = .ok (.getfield 23, 3) := by decide +kernel
theorem dX3_copyFrom_21 : decode cX3_copyFrom 21 = .ok (.putfield 23, 3) := by decide +kernel
theorem dX3_copyFrom_24 : decode cX3_copyFrom 24 = .ok (.aload_n 0, 1) := by decide +kernel
theorem dX3_copyFrom_25 : decode cX3_copyFrom 25 = .ok (.aload_n 1, 1) := by decide +kernel
theorem dX3_copyFrom_26 : decode cX3_copyFrom 26 = .ok (.getfield 26, 3) := by decide +kernel
theorem dX3_copyFrom_29 : decode cX3_copyFrom 29 = .ok (.putfield 26, 3) := by decide +kernel
theorem dX3_copyFrom_32 : decode cX3_copyFrom 32 = .ok (.aload_n 0, 1) := by decide +kernel
theorem dX3_copyFrom_33 : decode cX3_copyFrom 33 = .ok (.aload_n 1, 1) := by decide +kernel
theorem dX3_copyFrom_34 : decode cX3_copyFrom 34 = .ok (.getfield 30, 3) := by decide +kernel
theorem dX3_copyFrom_37 : decode cX3_copyFrom 37 = .ok (.putfield 30, 3) := by decide +kernel
theorem dX3_copyFrom_40 : decode cX3_copyFrom 40 = .ok (.iconst 0, 1) := by decide +kernel
theorem dX3_copyFrom_41 : decode cX3_copyFrom 41 = .ok (.istore_n 2, 1) := by decide +kernel
theorem dX3_copyFrom_42 : decode cX3_copyFrom 42 = .ok (.iload_n 2, 1) := by decide +kernel
theorem dX3_copyFrom_43 : decode cX3_copyFrom 43 = .ok (.bipush 50, 2) := by decide +kernel
theorem dX3_copyFrom_45 : decode cX3_copyFrom 45 = .ok (.if_icmp .ge 21, 3) := by decide +kernel
theorem dX3_copyFrom_48 : decode cX3_copyFrom 48 = .ok (.aload_n 0, 1) := by decide +kernel
theorem dX3_copyFrom_49 : decode cX3_copyFrom 49 = .ok (.getfield 9, 3) := by decide +kernel
theorem dX3_copyFrom_52 : decode cX3_copyFrom 52 = .ok (.iload_n 2, 1) := by decide +kernel
theorem dX3_copyFrom_53 : decode cX3_copyFrom 53 = .ok (.aload_n 1, 1) := by decide +kernel
theorem dX3_copyFrom_54 : decode cX3_copyFrom 54 = .ok (.getfield 9, 3) := by decide +kernel
theorem dX3_copyFrom_57 : decode cX3_copyFrom 57 = .ok (.iload_n 2, 1) := by decide +kernel
theorem dX3_copyFrom_58 : decode cX3_copyFrom 58 = .ok (.iaload, 1) := by decide +kernel
theorem dX3_copyFrom_59 : decode cX3_copyFrom 59 = .ok (.iastore, 1) := by decide +kernel
theorem dX3_copyFrom_60 : decode cX3_copyFrom 60 = .ok (.iinc 2 1, 3) := by decide +kernel
theorem dX3_copyFrom_63 : decode cX3_copyFrom 63 = .ok (.goto (-21), 3) := by decide +kernel
theorem dX3_copyFrom_66 : decode cX3_copyFrom 66 = .ok (.return_, 1) := by decide +kernel
theorem dX3_add_0 : decode cX3_add 0 = .ok (.aload_n 0, 1) := by decide +kernel
theorem dX3_add_1 : decode cX3_add 1 = .ok (.getfield 19, 3) := by decide +kernel
theorem dX3_add_4 : decode cX3_add 4 = .ok (.bipush 50, 2) := by decide +kernel
theorem dX3_add_6 : decode cX3_add 6 = .ok (.if_icmp .ge 27, 3) := by decide +kernel
theorem dX3_add_9 : decode cX3_add 9 = .ok (.aload_n 0, 1) := by decide +kernel
theorem dX3_add_10 : decode cX3_add 10 = .ok (.getfield 9, 3) := by decide +kernel
theorem dX3_add_13 : decode cX3_add 13 = .ok (.aload_n 0, 1) := by decide +kernel
theorem dX3_add_14 : decode cX3_add 14 = .ok (.getfield 19, 3) := by decide +kernel
theorem dX3_add_17 : decode cX3_add 17 = .ok (.iload_n 1, 1) := by decide +kernel
theorem dX3_add_18 : decode cX3_add 18 = .ok (.iastore, 1) := by decide +kernel
theorem dX3_add_19 : decode cX3_add 19 = .ok (.aload_n 0, 1) := by decide +kernel
theorem dX3_add_20 : decode cX3_add 20 = .ok (.aload_n 0, 1) := by decide +kernel
theorem dX3_add_21 : decode cX3_add 21 = .ok (.getfield 19, 3) := by decide +kernel
theorem dX3_add_24 : decode cX3_add 24 = .ok (.iconst 1, 1) := by decide +kernel
theorem dX3_add_25 : decode cX3_add 25 = .ok (.iadd, 1) := by decide +kernel
theorem dX3_add_26 : decode cX3_add 26 = .ok (.putfield 23, 3) := by decide +kernel
theorem dX3_add_29 : decode cX3_add 29 = .ok (.aload_n 0, 1) := by decide +kernel
theorem dX3_add_30 : decode cX3_add 30 = .ok (.invokevirtual 33, 3) := by decide +kernel
theorem dX3_add_33 : decode cX3_add 33 = .ok (.return_, 1) := by decide +kernel
theorem dX3_redo_0 : decode cX3_redo 0 = .ok (.aload_n 0, 1) := by decide +kernel
theorem dX3_redo_1 : decode cX3_redo 1 = .ok (.getfield 19, 3) := by decide +kernel
theorem dX3_redo_4 : decode cX3_redo 4 = .ok (.aload_n 0, 1) := by decide +kernel
theorem dX3_redo_5 : decode cX3_redo 5 = .ok (.getfield 23, 3) := by decide +kernel
theorem dX3_redo_8 : decode cX3_redo 8 = .ok (.if_icmp .ge 21, 3) := by decide +kernel
theorem dX3_redo_11 : decode cX3_redo 11 = .ok (.aload_n 0, 1) := by decide +kernel
theorem dX3_redo_12 : decode cX3_redo 12 = .ok (.aload_n 0, 1) := by decide +kernel
theorem dX3_redo_13 : decode cX3_redo 13 = .ok (.getfield 19, 3) := by decide +kernel
theorem dX3_redo_16 : decode cX3_redo 16 = .ok (.invokevirtual 36, 3) := by decide +kernel
theorem dX3_redo_19 : decode cX3_redo 19 = .ok (.aload_n 0, 1) := by decide +kernel
theorem dX3_redo_20 : decode cX3_redo 20 = .ok (.dup, 1) := by decide +kernel
theorem dX3_redo_21 : decode cX3_redo 21 = .ok (.getfield 19, 3) := by decide +kernel
theorem dX3_redo_24 : decode cX3_redo 24 = .ok (.iconst 1, 1) := by decide +kernel
theorem dX3_redo_25 : decode cX3_redo 25 = .ok (.iadd, 1) := by decide +kernel
theorem dX3_redo_26 : decode cX3_redo 26 = .ok (.putfield 19, 3) := by decide +kernel
theorem dX3_redo_29 : decode cX3_redo 29 = .ok (.return_, 1) := by decide +kernel
theorem dX3_undo_0 : decode cX3_undo 0 = .ok (.aload_n 0, 1) := by decide +kernel
theorem dX3_undo_1 : decode cX3_undo 1 = .ok (.getfield 19, 3) := by decide +kernel
theorem dX3_undo_4 : decode cX3_undo 4 = .ok (.iconst 1, 1) := by decide +kernel
theorem dX3_undo_5 : decode cX3_undo 5 = .ok (.isub, 1) := by decide +kernel
theorem dX3_undo_6 : decode cX3_undo 6 = .ok (.istore_n 1, 1) := by decide +kernel
theorem dX3_undo_7 : decode cX3_undo 7 = .ok (.aload_n 0, 1) := by decide +kernel
theorem dX3_undo_8 : decode cX3_undo 8 = .ok (.lconst 0, 1) := by decide +kernel
theorem dX3_undo_9 : decode cX3_undo 9 = .ok (.putfield 26, 3) := by decide +kernel
theorem dX3_undo_12 : decode cX3_undo 12 = .ok (.aload_n 0, 1) := by decide +kernel
theorem dX3_undo_13 : decode cX3_undo 13 = .ok (.lconst 0, 1) := by decide +kernel
theorem dX3_undo_14 : decode cX3_undo 14 = .ok (.putfield 30, 3) := by decide +kernel
theorem dX3_undo_17 : decode cX3_undo 17 = .ok (.aload_n 0, 1) := by decide +kernel
theorem dX3_undo_18 : decode cX3_undo 18 = .ok (.iconst 0, 1) := by decide +kernel
theorem dX3_undo_19 : decode cX3_undo 19 = .ok (.putfield 19, 3) := by decide +kernel
theorem dX3_undo_22 : decode cX3_undo 22 = .ok (.iconst 0, 1) := by decide +kernel
theorem dX3_undo_23 : decode cX3_undo 23 = .ok (.istore_n 2, 1) := by decide +kernel
theorem dX3_undo_24 : decode cX3_undo 24 = .ok (.iload_n 2, 1) := by decide +kernel
theorem dX3_undo_25 : decode cX3_undo 25 = .ok (.iload_n 1, 1) := by decide +kernel
theorem dX3_undo_26 : decode cX3_undo 26 = .ok (.if_icmp .ge 13, 3) := by decide +kernel
theorem dX3_undo_29 : decode cX3_undo 29 = .ok (.aload_n 0, 1) := by decide +kernel
theorem dX3_undo_30 : decode cX3_undo 30 = .ok (.invokevirtual 33, 3) := by decide +kernel
theorem dX3_undo_33 : decode cX3_undo 33 = .ok (.iinc 2 1, 3) := by decide +kernel
theorem dX3_undo_36 : decode cX3_undo 36 = .ok (.goto (-12), 3) := by decide +kernel
theorem dX3_undo_39 : decode cX3_undo 39 = .ok (.return_, 1) := by decide +kernel
theorem dX3_apply_0 : decode cX3_apply 0 = .ok (.aload_n 0, 1) := by decide +kernel
theorem dX3_apply_1 : decode cX3_apply 1 = .ok (.iload_n 1, 1) := by decide +kernel
theorem dX3_apply_2 : decode cX3_apply 2 = .ok (.invokevirtual 40, 3) := by decide +kernel
theorem dX3_apply_5 : decode cX3_apply 5 = .ok (.istore_n 2, 1) := by decide +kernel
theorem dX3_apply_6 : decode cX3_apply 6 = .ok (.iload_n 2, 1) := by decide +kernel
theorem dX3_apply_7 : decode cX3_apply 7 = .ok (.bipush (-16), 2) := by decide +kernel
theorem dX3_apply_9 : decode cX3_apply 9 = .ok (.if_icmp .ne 26, 3) := by decide +kernel
theorem dX3_apply_12 : decode cX3_apply 12 = .ok (.aload_n 0, 1) := by decide +kernel
theorem dX3_apply_13 : decode cX3_apply 13 = .ok (.aload_n 0, 1) := by decide +kernel
theorem dX3_apply_14 : decode cX3_apply 14 = .ok (.getfield 15, 3) := by decide +kernel
theorem dX3_apply_17 : decode cX3_apply 17 = .ok (.aload_n 0, 1) := by decide +kernel
theorem dX3_apply_18 : decode cX3_apply 18 = .ok (.getfield 26, 3) := by decide +kernel
theorem dX3_apply_21 : decode cX3_apply 21 = .ok (.invokevirtual 44, 3) := by decide +kernel
theorem dX3_apply_24 : decode cX3_apply 24 = .ok (.putfield 30, 3) := by decide +kernel
theorem dX3_apply_27 : decode cX3_apply 27 = .ok (.aload_n 0, 1) := by decide +kernel
theorem dX3_apply_28 : decode cX3_apply 28 = .ok (.lconst 0, 1) := by decide +kernel
theorem dX3_apply_29 : decode cX3_apply 29 = .ok (.putfield 26, 3) := by decide +kernel
theorem dX3_apply_32 : decode cX3_apply 32 = .ok (.goto 36, 3) := by decide +kernel
theorem dX3_apply_35 : decode cX3_apply 35 = .ok (.iload_n 1, 1) := by decide +kernel
theorem dX3_apply_36 : decode cX3_apply 36 = .ok (.iconst 2, 1) := by decide +kernel
theorem dX3_apply_37 : decode cX3_apply 37 = .ok (.irem, 1) := by decide +kernel
theorem dX3_apply_38 : decode cX3_apply 38 = .ok (.ifCond .ne 18, 3) := by decide +kernel
theorem dX3_apply_41 : decode cX3_apply 41 = .ok (.aload_n 0, 1) := by decide +kernel
theorem dX3_apply_42 : decode cX3_apply 42 = .ok (.dup, 1) := by decide +kernel
theorem dX3_apply_43 : decode cX3_apply 43 = .ok (.getfield 26, 3) := by decide +kernel
theorem dX3_apply_46 : decode cX3_apply 46 = .ok (.lconst 1, 1) := by decide +kernel
theorem dX3_apply_47 : decode cX3_apply 47 = .ok (.iload_n 2, 1) := by decide +kernel
theorem dX3_apply_48 : decode cX3_apply 48 = .ok (.lshl, 1) := by decide +kernel
theorem dX3_apply_49 : decode cX3_apply 49 = .ok (.lor, 1) := by decide +kernel
theorem dX3_apply_50 : decode cX3_apply 50 = .ok (.putfield 26, 3) := by decide +kernel
theorem dX3_apply_53 : decode cX3_apply 53 = .ok (.goto 15, 3) := by decide +kernel
theorem dX3_apply_56 : decode cX3_apply 56 = .ok (.aload_n 0, 1) := by decide +kernel
theorem dX3_apply_57 : decode cX3_apply 57 = .ok (.dup, 1) := by decide +kernel
theorem dX3_apply_58 : decode cX3_apply 58 = .ok (.getfield 30, 3) := by decide +kernel
theorem dX3_apply_61 : decode cX3_apply 61 = .ok (.lconst 1, 1) := by decide +kernel
theorem dX3_apply_62 : decode cX3_apply 62 = .ok (.iload_n 2, 1) := by decide +kernel
theorem dX3_apply_63 : decode cX3_apply 63 = .ok (.lshl, 1) := by decide +kernel
theorem dX3_apply_64 : decode cX3_apply 64 = .ok (.lor, 1) := by decide +kernel
theorem dX3_apply_65 : decode cX3_apply 65 = .ok (.putfield 30, 3) := by decide +kernel
theorem dX3_apply_68 : decode cX3_apply 68 = .ok (.return_, 1) := by decide +kernel
theorem dX3_moveNumber_0 : decode cX3_moveNumber 0 = .ok (.iload_n 1, 1) := by decide +kernel
theorem dX3_moveNumber_1 : decode cX3_moveNumber 1 = .ok (.ifCond .lt 18, 3) := by decide +kernel
theorem dX3_moveNumber_4 : decode cX3_moveNumber 4 = .ok (.iload_n 1, 1) := by decide +kernel
theorem dX3_moveNumber_5 : decode cX3_moveNumber 5 = .ok (.bipush 50, 2) := by decide +kernel
theorem dX3_moveNumber_7 : decode cX3_moveNumber 7 = .ok (.if_icmp .ge 12, 3) := by decide +kernel
theorem dX3_moveNumber_10 : decode cX3_moveNumber 10 = .ok (.aload_n 0, 1) := by decide +kernel
theorem dX3_moveNumber_11 : decode cX3_moveNumber 11 = .ok (.getfield 9, 3) := by decide +kernel
theorem dX3_moveNumber_14 : decode cX3_moveNumber 14 = .ok (.iload_n 1, 1) := by decide +kernel
theorem dX3_moveNumber_15 : decode cX3_moveNumber 15 = .ok (.iaload, 1) := by decide +kernel
theorem dX3_moveNumber_16 : decode cX3_moveNumber 16 = .ok (.goto 5, 3) := by decide +kernel
theorem dX3_moveNumber_19 : decode cX3_moveNumber 19 = .ok (.bipush (-15), 2) := by decide +kernel
theorem dX3_moveNumber_21 : decode cX3_moveNumber 21 = .ok (.ireturn, 1) := by decide +kernel
theorem dX3_latest_0 : decode cX3_latest 0 = .ok (.aload_n 0, 1) := by decide +kernel
theorem dX3_latest_1 : decode cX3_latest 1 = .ok (.aload_n 0, 1) := by decide +kernel
theorem dX3_latest_2 : decode cX3_latest 2 = .ok (.getfield 19, 3) := by decide +kernel
theorem dX3_latest_5 : decode cX3_latest 5 = .ok (.iconst 1, 1) := by decide +kernel
theorem dX3_latest_6 : decode cX3_latest 6 = .ok (.isub, 1) := by decide +kernel
theorem dX3_latest_7 : decode cX3_latest 7 = .ok (.invokevirtual 40, 3) := by decide +kernel
theorem dX3_latest_10 : decode cX3_latest 10 = .ok (.ireturn, 1) := by decide +kernel
theorem dX3_mover_0 : decode cX3_mover 0 = .ok (.aload_n 0, 1) := by decide +kernel
theorem dX3_mover_1 : decode cX3_mover 1 = .ok (.getfield 19, 3) := by decide +kernel
theorem dX3_mover_4 : decode cX3_mover 4 = .ok (.iconst 2, 1) := by decide +kernel
theorem dX3_mover_5 : decode cX3_mover 5 = .ok (.irem, 1) := by decide +kernel
theorem dX3_mover_6 : decode cX3_mover 6 = .ok (.ireturn, 1) := by decide +kernel
theorem dX3_maySwap_0 : decode cX3_maySwap 0 = .ok (.aload_n 0, 1) := by decide +kernel
theorem dX3_maySwap_1 : decode cX3_maySwap 1 = .ok (.getfield 19, 3) := by decide +kernel
theorem dX3_maySwap_4 : decode cX3_maySwap 4 = .ok (.iconst 1, 1) := by decide +kernel
theorem dX3_maySwap_5 : decode cX3_maySwap 5 = .ok (.if_icmp .ne 7, 3) := by decide +kernel
theorem dX3_maySwap_8 : decode cX3_maySwap 8 = .ok (.iconst 1, 1) := by decide +kernel
theorem dX3_maySwap_9 : decode cX3_maySwap 9 = .ok (.goto 4, 3) := by decide +kernel
theorem dX3_maySwap_12 : decode cX3_maySwap 12 = .ok (.iconst 0, 1) := by decide +kernel
theorem dX3_maySwap_13 : decode cX3_maySwap 13 = .ok (.ireturn, 1) := by decide +kernel
theorem dX3_stonesOf_0 : decode cX3_stonesOf 0 = .ok (.iload_n 1, 1) := by decide +kernel
theorem dX3_stonesOf_1 : decode cX3_stonesOf 1 = .ok (.ifCond .ne 10, 3) := by decide +kernel
theorem dX3_stonesOf_4 : decode cX3_stonesOf 4 = .ok (.aload_n 0, 1) := by decide +kernel
theorem dX3_stonesOf_5 : decode cX3_stonesOf 5 = .ok (.getfield 26, 3) := by decide +kernel
theorem dX3_stonesOf_8 : decode cX3_stonesOf 8 = .ok (.goto 7, 3) := by decide +kernel
theorem dX3_stonesOf_11 : decode cX3_stonesOf 11 = .ok (.aload_n 0, 1) := by decide +kernel
theorem dX3_stonesOf_12 : decode cX3_stonesOf 12 = .ok (.getfield 30, 3) := by decide +kernel
theorem dX3_stonesOf_15 : decode cX3_stonesOf 15 = .ok (.lreturn, 1) := by decide +kernel
theorem dX3_free_0 : decode cX3_free 0 = .ok (.aload_n 0, 1) := by decide +kernel
theorem dX3_free_1 : decode cX3_free 1 = .ok (.getfield 15, 3) := by decide +kernel
theorem dX3_free_4 : decode cX3_free 4 = .ok (.getfield 50, 3) := by decide +kernel
theorem dX3_free_7 : decode cX3_free 7 = .ok (.aload_n 0, 1) := by decide +kernel
theorem dX3_free_8 : decode cX3_free 8 = .ok (.getfield 26, 3) := by decide +kernel
theorem dX3_free_11 : decode cX3_free 11 = .ok (.ldc2_w 53, 3) := by decide +kernel
theorem dX3_free_14 : decode cX3_free 14 = .ok (.lxor, 1) := by decide +kernel
theorem dX3_free_15 : decode cX3_free 15 = .ok (.land, 1) := by decide +kernel
theorem dX3_free_16 : decode cX3_free 16 = .ok (.aload_n 0, 1) := by decide +kernel
theorem dX3_free_17 : decode cX3_free 17 = .ok (.getfield 30, 3) := by decide +kernel
theorem dX3_free_20 : decode cX3_free 20 = .ok (.ldc2_w 53, 3) := by decide +kernel
theorem dX3_free_23 : decode cX3_free 23 = .ok (.lxor, 1) := by decide +kernel
theorem dX3_free_24 : decode cX3_free 24 = .ok (.land, 1) := by decide +kernel
theorem dX3_free_25 : decode cX3_free 25 = .ok (.lreturn, 1) := by decide +kernel
theorem dX3_isFree_0 : decode cX3_isFree 0 = .ok (.aload_n 0, 1) := by decide +kernel
theorem dX3_isFree_1 : decode cX3_isFree 1 = .ok (.invokevirtual 55, 3) := by decide +kernel
theorem dX3_isFree_4 : decode cX3_isFree 4 = .ok (.iload_n 1, 1) := by decide +kernel
theorem dX3_isFree_5 : decode cX3_isFree 5 = .ok (.lushr, 1) := by decide +kernel
theorem dX3_isFree_6 : decode cX3_isFree 6 = .ok (.lconst 1, 1) := by decide +kernel
theorem dX3_isFree_7 : decode cX3_isFree 7 = .ok (.land, 1) := by decide +kernel
theorem dX3_isFree_8 : decode cX3_isFree 8 = .ok (.lconst 0, 1) := by decide +kernel
theorem dX3_isFree_9 : decode cX3_isFree 9 = .ok (.lcmp, 1) := by decide +kernel
theorem dX3_isFree_10 : decode cX3_isFree 10 = .ok (.ifCond .eq 7, 3) := by decide +kernel
theorem dX3_isFree_13 : decode cX3_isFree 13 = .ok (.iconst 1, 1) := by decide +kernel
theorem dX3_isFree_14 : decode cX3_isFree 14 = .ok (.goto 4, 3) := by decide +kernel
theorem dX3_isFree_17 : decode cX3_isFree 17 = .ok (.iconst 0, 1) := by decide +kernel
theorem dX3_isFree_18 : decode cX3_isFree 18 = .ok (.ireturn, 1) := by decide +kernel
theorem dX3_victor_0 : decode cX3_victor 0 = .ok (.aload_n 0, 1) := by decide +kernel
theorem dX3_victor_1 : decode cX3_victor 1 = .ok (.getfield 15, 3) := by decide +kernel
theorem dX3_victor_4 : decode cX3_victor 4 = .ok (.aload_n 0, 1) := by decide +kernel
theorem dX3_victor_5 : decode cX3_victor 5 = .ok (.getfield 26, 3) := by decide +kernel
theorem dX3_victor_8 : decode cX3_victor 8 = .ok (.aload_n 0, 1) := by decide +kernel
theorem dX3_victor_9 : decode cX3_victor 9 = .ok (.getfield 15, 3) := by decide +kernel
theorem dX3_victor_12 : decode cX3_victor 12 = .ok (.getfield 59, 3) := by decide +kernel
theorem dX3_victor_15 : decode cX3_victor 15 = .ok (.aload_n 0, 1) := by decide +kernel
theorem dX3_victor_16 : decode cX3_victor 16 = .ok (.getfield 15, 3) := by decide +kernel
theorem dX3_victor_19 : decode cX3_victor 19 = .ok (.getfield 62, 3) := by decide +kernel
theorem dX3_victor_22 : decode cX3_victor 22 = .ok (.invokevirtual 65, 3) := by decide +kernel
theorem dX3_victor_25 : decode cX3_victor 25 = .ok (.ifCond .eq 5, 3) := by decide +kernel
theorem dX3_victor_28 : decode cX3_victor 28 = .ok (.iconst 0, 1) := by decide +kernel
theorem dX3_victor_29 : decode cX3_victor 29 = .ok (.ireturn, 1) := by decide +kernel
theorem dX3_victor_30 : decode cX3_victor 30 = .ok (.aload_n 0, 1) := by decide +kernel
theorem dX3_victor_31 : decode cX3_victor 31 = .ok (.getfield 15, 3) := by decide +kernel
theorem dX3_victor_34 : decode cX3_victor 34 = .ok (.aload_n 0, 1) := by decide +kernel
theorem dX3_victor_35 : decode cX3_victor 35 = .ok (.getfield 30, 3) := by decide +kernel
theorem dX3_victor_38 : decode cX3_victor 38 = .ok (.aload_n 0, 1) := by decide +kernel
theorem dX3_victor_39 : decode cX3_victor 39 = .ok (.getfield 15, 3) := by decide +kernel
theorem dX3_victor_42 : decode cX3_victor 42 = .ok (.getfield 69, 3) := by decide +kernel
theorem dX3_victor_45 : decode cX3_victor 45 = .ok (.aload_n 0, 1) := by decide +kernel
theorem dX3_victor_46 : decode cX3_victor 46 = .ok (.getfield 15, 3) := by decide +kernel
theorem dX3_victor_49 : decode cX3_victor 49 = .ok (.getfield 72, 3) := by decide +kernel
theorem dX3_victor_52 : decode cX3_victor 52 = .ok (.invokevirtual 65, 3) := by decide +kernel
theorem dX3_victor_55 : decode cX3_victor 55 = .ok (.ifCond .eq 7, 3) := by decide +kernel
theorem dX3_victor_58 : decode cX3_victor 58 = .ok (.iconst 1, 1) := by decide +kernel
theorem dX3_victor_59 : decode cX3_victor 59 = .ok (.goto 5, 3) := by decide +kernel
theorem dX3_victor_62 : decode cX3_victor 62 = .ok (.bipush (-15), 2) := by decide +kernel
theorem dX3_victor_64 : decode cX3_victor 64 = .ok (.ireturn, 1) := by decide +kernel
theorem dX4_init_0 : decode cX4_init 0 = .ok (.aload_n 0, 1) := by decide +kernel
theorem dX4_init_1 : decode cX4_init 1 = .ok (.invokespecial 3, 3) := by decide +kernel
theorem dX4_init_4 : decode cX4_init 4 = .ok (.aload_n 0, 1) := by decide +kernel
theorem dX4_init_5 : decode cX4_init 5 = .ok (.bipush 50, 2) := by decide +kernel
theorem dX4_init_7 : decode cX4_init 7 = .ok (.newarray .long, 2) := by decide +kernel
theorem dX4_init_9 : decode cX4_init 9 = .ok (.putfield 9, 3) := by decide +kernel
theorem dX4_init_12 : decode cX4_init 12 = .ok (.return_, 1) := by decide +kernel
theorem dX4_measure_0 : decode cX4_measure 0 = .ok (.aload_n 1, 1) := by decide +kernel
theorem dX4_measure_1 : decode cX4_measure 1 = .ok (.getfield 15, 3) := by decide +kernel
theorem dX4_measure_4 : decode cX4_measure 4 = .ok (.astore_n 3, 1) := by decide +kernel
theorem dX4_measure_5 : decode cX4_measure 5 = .ok (.aload_n 1, 1) := by decide +kernel
theorem dX4_measure_6 : decode cX4_measure 6 = .ok (.iload_n 2, 1) := by decide +kernel
theorem dX4_measure_7 : decode cX4_measure 7 = .ok (.invokevirtual 21, 3) := by decide +kernel
theorem dX4_measure_10 : decode cX4_measure 10 = .ok (.lstore 4, 2) := by decide +kernel
theorem dX4_measure_12 : decode cX4_measure 12 = .ok (.aload_n 3, 1) := by decide +kernel
theorem dX4_measure_13 : decode cX4_measure 13 = .ok (.iload_n 2, 1) := by decide +kernel
theorem dX4_measure_14 : decode cX4_measure 14 = .ok (.invokevirtual 25, 3) := by decide +kernel
theorem dX4_measure_17 : decode cX4_measure 17 = .ok (.lstore 6, 2) := by decide +kernel
theorem dX4_measure_19 : decode cX4_measure 19 = .ok (.aload_n 3, 1) := by decide +kernel
theorem dX4_measure_20 : decode cX4_measure 20 = .ok (.lload 6, 2) := by decide +kernel
theorem dX4_measure_22 : decode cX4_measure 22 = .ok (.lload 4, 2) := by decide +kernel
theorem dX4_measure_24 : decode cX4_measure 24 = .ok (.invokevirtual 30, 3) := by decide +kernel
theorem dX4_measure_27 : decode cX4_measure 27 = .ok (.lstore 8, 2) := by decide +kernel
theorem dX4_measure_29 : decode cX4_measure 29 = .ok (.iconst 0, 1) := by decide +kernel
theorem dX4_measure_30 : decode cX4_measure 30 = .ok (.istore 10, 2) := by decide +kernel
theorem dX4_measure_32 : decode cX4_measure 32 = .ok (.iload 10, 2) := by decide +kernel
theorem dX4_measure_34 : decode cX4_measure 34 = .ok (.bipush 49, 2) := by decide +kernel
theorem dX4_measure_36 : decode cX4_measure 36 = .ok (.if_icmp .gt 50, 3) := by decide +kernel
theorem dX4_measure_39 : decode cX4_measure 39 = .ok (.aload_n 0, 1) := by decide +kernel
theorem dX4_measure_40 : decode cX4_measure 40 = .ok (.getfield 9, 3) := by decide +kernel
theorem dX4_measure_43 : decode cX4_measure 43 = .ok (.iload 10, 2) := by decide +kernel
theorem dX4_measure_45 : decode cX4_measure 45 = .ok (.lload 8, 2) := by decide +kernel
theorem dX4_measure_47 : decode cX4_measure 47 = .ok (.lastore, 1) := by decide +kernel
theorem dX4_measure_48 : decode cX4_measure 48 = .ok (.lload 8, 2) := by decide +kernel
theorem dX4_measure_50 : decode cX4_measure 50 = .ok (.aload_n 3, 1) := by decide +kernel
theorem dX4_measure_51 : decode cX4_measure 51 = .ok (.iload_n 2, 1) := by decide +kernel
theorem dX4_measure_52 : decode cX4_measure 52 = .ok (.invokevirtual 34, 3) := by decide +kernel
theorem dX4_measure_55 : decode cX4_measure 55 = .ok (.land, 1) := by decide +kernel
theorem dX4_measure_56 : decode cX4_measure 56 = .ok (.lconst 0, 1) := by decide +kernel
theorem dX4_measure_57 : decode cX4_measure 57 = .ok (.lcmp, 1) := by decide +kernel
theorem dX4_measure_58 : decode cX4_measure 58 = .ok (.ifCond .eq 6, 3) := by decide +kernel
theorem dX4_measure_61 : decode cX4_measure 61 = .ok (.iload 10, 2) := by decide +kernel
theorem dX4_measure_63 : decode cX4_measure 63 = .ok (.ireturn, 1) := by decide +kernel
theorem dX4_measure_64 : decode cX4_measure 64 = .ok (.aload_n 3, 1) := by decide +kernel
theorem dX4_measure_65 : decode cX4_measure 65 = .ok (.lload 8, 2) := by decide +kernel
theorem dX4_measure_67 : decode cX4_measure 67 = .ok (.lload 6, 2) := by decide +kernel
theorem dX4_measure_69 : decode cX4_measure 69 = .ok (.lload 4, 2) := by decide +kernel
theorem dX4_measure_71 : decode cX4_measure 71 = .ok (.aload_n 1, 1) := by decide +kernel
theorem dX4_measure_72 : decode cX4_measure 72 = .ok (.invokevirtual 37, 3) := by decide +kernel
theorem dX4_measure_75 : decode cX4_measure 75 = .ok (.invokestatic 41, 3) := by decide +kernel
theorem dX4_measure_78 : decode cX4_measure 78 = .ok (.lstore 8, 2) := by decide +kernel
theorem dX4_measure_80 : decode cX4_measure 80 = .ok (.iinc 10 1, 3) := by decide +kernel
theorem dX4_measure_83 : decode cX4_measure 83 = .ok (.goto (-51), 3) := by decide +kernel
theorem dX4_measure_86 : decode cX4_measure 86 = .ok (.bipush (-15), 2) := by decide +kernel
theorem dX4_measure_88 : decode cX4_measure 88 = .ok (.ireturn, 1) := by decide +kernel
theorem dX4_nextLayer_0 : decode cX4_nextLayer 0 = .ok (.lload_n 1, 1) := by decide +kernel
theorem dX4_nextLayer_1 : decode cX4_nextLayer 1 = .ok (.lload_n 3, 1) := by decide +kernel
theorem dX4_nextLayer_2 : decode cX4_nextLayer 2 = .ok (.aload_n 0, 1) := by decide +kernel
theorem dX4_nextLayer_3 : decode cX4_nextLayer 3 = .ok (.lload_n 1, 1) := by decide +kernel
theorem dX4_nextLayer_4 : decode cX4_nextLayer 4 = .ok (.invokevirtual 45, 3) := by decide +kernel
theorem dX4_nextLayer_7 : decode cX4_nextLayer 7 = .ok (.lor, 1) := by decide +kernel
theorem dX4_nextLayer_8 : decode cX4_nextLayer 8 = .ok (.lload 7, 2) := by decide +kernel
theorem dX4_nextLayer_10 : decode cX4_nextLayer 10 = .ok (.land, 1) := by decide +kernel
theorem dX4_nextLayer_11 : decode cX4_nextLayer 11 = .ok (.lor, 1) := by decide +kernel
theorem dX4_nextLayer_12 : decode cX4_nextLayer 12 = .ok (.lstore 9, 2) := by decide +kernel
theorem dX4_nextLayer_14 : decode cX4_nextLayer 14 = .ok (.aload_n 0, 1) := by decide +kernel
theorem dX4_nextLayer_15 : decode cX4_nextLayer 15 = .ok (.lload 9, 2) := by decide +kernel
theorem dX4_nextLayer_17 : decode cX4_nextLayer 17 = .ok (.lload 9, 2) := by decide +kernel
theorem dX4_nextLayer_19 : decode cX4_nextLayer 19 = .ok (.lload 5, 2) := by decide +kernel
theorem dX4_nextLayer_21 : decode cX4_nextLayer 21 = .ok (.lor, 1) := by decide +kernel
theorem dX4_nextLayer_22 : decode cX4_nextLayer 22 = .ok (.invokevirtual 30, 3) := by decide +kernel
theorem dX4_nextLayer_25 : decode cX4_nextLayer 25 = .ok (.lreturn, 1) := by decide +kernel
theorem dX4_onShortest_0 : decode cX4_onShortest 0 = .ok (.aload_n 0, 1) := by decide +kernel
theorem dX4_onShortest_1 : decode cX4_onShortest 1 = .ok (.aload_n 1, 1) := by decide +kernel
theorem dX4_onShortest_2 : decode cX4_onShortest 2 = .ok (.iload_n 2, 1) := by decide +kernel
theorem dX4_onShortest_3 : decode cX4_onShortest 3 = .ok (.invokevirtual 49, 3) := by decide +kernel
theorem dX4_onShortest_6 : decode cX4_onShortest 6 = .ok (.istore_n 3, 1) := by decide +kernel
theorem dX4_onShortest_7 : decode cX4_onShortest 7 = .ok (.iload_n 3, 1) := by decide +kernel
theorem dX4_onShortest_8 : decode cX4_onShortest 8 = .ok (.bipush (-15), 2) := by decide +kernel
theorem dX4_onShortest_10 : decode cX4_onShortest 10 = .ok (.if_icmp .ne 7, 3) := by decide +kernel
theorem dX4_onShortest_13 : decode cX4_onShortest 13 = .ok (.ldc2_w 53, 3) := by decide +kernel
theorem dX4_onShortest_16 : decode cX4_onShortest 16 = .ok (.lreturn, 1) := by decide +kernel
theorem dX4_onShortest_17 : decode cX4_onShortest 17 = .ok (.aload_n 1, 1) := by decide +kernel
theorem dX4_onShortest_18 : decode cX4_onShortest 18 = .ok (.getfield 15, 3) := by decide +kernel
theorem dX4_onShortest_21 : decode cX4_onShortest 21 = .ok (.astore 4, 2) := by decide +kernel
theorem dX4_onShortest_23 : decode cX4_onShortest 23 = .ok (.aload_n 1, 1) := by decide +kernel
theorem dX4_onShortest_24 : decode cX4_onShortest 24 = .ok (.iload_n 2, 1) := by decide +kernel
theorem dX4_onShortest_25 : decode cX4_onShortest 25 = .ok (.invokevirtual 21, 3) := by decide +kernel
theorem dX4_onShortest_28 : decode cX4_onShortest 28 = .ok (.lstore 5, 2) := by decide +kernel
theorem dX4_onShortest_30 : decode cX4_onShortest 30 = .ok (.aload 4, 2) := by decide +kernel
theorem dX4_onShortest_32 : decode cX4_onShortest 32 = .ok (.iload_n 2, 1) := by decide +kernel
theorem dX4_onShortest_33 : decode cX4_onShortest 33 = .ok (.invokevirtual 34, 3) := by decide +kernel
theorem dX4_onShortest_36 : decode cX4_onShortest 36 = .ok (.lstore 7, 2) := by decide +kernel
theorem dX4_onShortest_38 : decode cX4_onShortest 38 = .ok (.aload 4, 2) := by decide +kernel
theorem dX4_onShortest_40 : decode cX4_onShortest 40 = .ok (.lload 7, 2) := by decide +kernel
theorem dX4_onShortest_42 : decode cX4_onShortest 42 = .ok (.lload 5, 2) := by decide +kernel
theorem dX4_onShortest_44 : decode cX4_onShortest 44 = .ok (.invokevirtual 30, 3) := by decide +kernel
theorem dX4_onShortest_47 : decode cX4_onShortest 47 = .ok (.lstore 9, 2) := by decide +kernel
theorem dX4_onShortest_49 : decode cX4_onShortest 49 = .ok (.lconst 0, 1) := by decide +kernel
theorem dX4_onShortest_50 : decode cX4_onShortest 50 = .ok (.lstore 11, 2) := by decide +kernel
theorem dX4_onShortest_52 : decode cX4_onShortest 52 = .ok (.iload_n 3, 1) := by decide +kernel
theorem dX4_onShortest_53 : decode cX4_onShortest 53 = .ok (.istore 13, 2) := by decide +kernel
theorem dX4_onShortest_55 : decode cX4_onShortest 55 = .ok (.iload 13, 2) := by decide +kernel
theorem dX4_onShortest_57 : decode cX4_onShortest 57 = .ok (.iconst 1, 1) := by decide +kernel
theorem dX4_onShortest_58 : decode cX4_onShortest 58 = .ok (.if_icmp .lt 53, 3) := by decide +kernel
theorem dX4_onShortest_61 : decode cX4_onShortest 61 = .ok (.iload 13, 2) := by decide +kernel
theorem dX4_onShortest_63 : decode cX4_onShortest 63 = .ok (.bipush 49, 2) := by decide +kernel
theorem dX4_onShortest_65 : decode cX4_onShortest 65 = .ok (.if_icmp .gt 46, 3) := by decide +kernel
theorem dX4_onShortest_68 : decode cX4_onShortest 68 = .ok (.aload 4, 2) := by decide +kernel
theorem dX4_onShortest_70 : decode cX4_onShortest 70 = .ok (.lload 9, 2) := by decide +kernel
theorem dX4_onShortest_72 : decode cX4_onShortest 72 = .ok (.lload 7, 2) := by decide +kernel
theorem dX4_onShortest_74 : decode cX4_onShortest 74 = .ok (.lload 5, 2) := by decide +kernel
theorem dX4_onShortest_76 : decode cX4_onShortest 76 = .ok (.aload_n 1, 1) := by decide +kernel
theorem dX4_onShortest_77 : decode cX4_onShortest 77 = .ok (.invokevirtual 37, 3) := by decide +kernel
theorem dX4_onShortest_80 : decode cX4_onShortest 80 = .ok (.invokestatic 41, 3) := by decide +kernel
theorem dX4_onShortest_83 : decode cX4_onShortest 83 = .ok (.lstore 9, 2) := by decide +kernel
theorem dX4_onShortest_85 : decode cX4_onShortest 85 = .ok (.lload 11, 2) := by decide +kernel
theorem dX4_onShortest_87 : decode cX4_onShortest 87 = .ok (.aload_n 0, 1) := by decide +kernel
theorem dX4_onShortest_88 : decode cX4_onShortest 88 = .ok (.getfield 9, 3) := by decide +kernel
theorem dX4_onShortest_91 : decode cX4_onShortest 91 = .ok (.iload 13, 2) := by decide +kernel
theorem dX4_onShortest_93 : decode cX4_onShortest 93 = .ok (.laload, 1) := by decide +kernel
theorem dX4_onShortest_94 : decode cX4_onShortest 94 = .ok (.lload 9, 2) := by decide +kernel
theorem dX4_onShortest_96 : decode cX4_onShortest 96 = .ok (.land, 1) := by decide +kernel
theorem dX4_onShortest_97 : decode cX4_onShortest 97 = .ok (.aload_n 1, 1) := by decide +kernel
theorem dX4_onShortest_98 : decode cX4_onShortest 98 = .ok (.invokevirtual 37, 3) := by decide +kernel
theorem dX4_onShortest_101 : decode cX4_onShortest 101 = .ok (.land, 1) := by decide +kernel
theorem dX4_onShortest_102 : decode cX4_onShortest 102 = .ok (.lor, 1) := by decide +kernel
theorem dX4_onShortest_103 : decode cX4_onShortest 103 = .ok (.lstore 11, 2) := by decide +kernel
theorem dX4_onShortest_105 : decode cX4_onShortest 105 = .ok (.iinc 13 (-1), 3) := by decide +kernel
theorem dX4_onShortest_108 : decode cX4_onShortest 108 = .ok (.goto (-53), 3) := by decide +kernel
theorem dX4_onShortest_111 : decode cX4_onShortest 111 = .ok (.lload 11, 2) := by decide +kernel
theorem dX4_onShortest_113 : decode cX4_onShortest 113 = .ok (.lreturn, 1) := by decide +kernel
theorem dJ13_bitCount_95d88_0 : decode cJ13_bitCount_95d88 0 = .ok (.lload_n 0, 1) := by decide +kernel
theorem dJ13_bitCount_95d88_1 : decode cJ13_bitCount_95d88 1 = .ok (.lload_n 0, 1) := by decide +kernel
theorem dJ13_bitCount_95d88_2 : decode cJ13_bitCount_95d88 2 = .ok (.iconst 1, 1) := by decide +kernel
theorem dJ13_bitCount_95d88_3 : decode cJ13_bitCount_95d88 3 = .ok (.lushr, 1) := by decide +kernel
theorem dJ13_bitCount_95d88_4 : decode cJ13_bitCount_95d88 4 = .ok (.ldc2_w 314, 3) := by decide +kernel
theorem dJ13_bitCount_95d88_7 : decode cJ13_bitCount_95d88 7 = .ok (.land, 1) := by decide +kernel
theorem dJ13_bitCount_95d88_8 : decode cJ13_bitCount_95d88 8 = .ok (.lsub, 1) := by decide +kernel
theorem dJ13_bitCount_95d88_9 : decode cJ13_bitCount_95d88 9 = .ok (.lstore_n 0, 1) := by decide +kernel
theorem dJ13_bitCount_95d88_10 : decode cJ13_bitCount_95d88 10 = .ok (.lload_n 0, 1) := by decide +kernel
theorem dJ13_bitCount_95d88_11 : decode cJ13_bitCount_95d88 11 = .ok (.ldc2_w 316, 3) := by decide +kernel
theorem dJ13_bitCount_95d88_14 : decode cJ13_bitCount_95d88 14 = .ok (.land, 1) := by decide +kernel
theorem dJ13_bitCount_95d88_15 : decode cJ13_bitCount_95d88 15 = .ok (.lload_n 0, 1) := by decide +kernel
theorem dJ13_bitCount_95d88_16 : decode cJ13_bitCount_95d88 16 = .ok (.iconst 2, 1) := by decide +kernel
theorem dJ13_bitCount_95d88_17 : decode cJ13_bitCount_95d88 17 = .ok (.lushr, 1) := by decide +kernel
theorem dJ13_bitCount_95d88_18 : decode cJ13_bitCount_95d88 18 = .ok (.ldc2_w 316, 3) := by decide +kernel
theorem dJ13_bitCount_95d88_21 : decode cJ13_bitCount_95d88 21 = .ok (.land, 1) := by decide +kernel
theorem dJ13_bitCount_95d88_22 : decode cJ13_bitCount_95d88 22 = .ok (.ladd, 1) := by decide +kernel
theorem dJ13_bitCount_95d88_23 : decode cJ13_bitCount_95d88 23 = .ok (.lstore_n 0, 1) := by decide +kernel
theorem dJ13_bitCount_95d88_24 : decode cJ13_bitCount_95d88 24 = .ok (.lload_n 0, 1) := by decide +kernel
theorem dJ13_bitCount_95d88_25 : decode cJ13_bitCount_95d88 25 = .ok (.lload_n 0, 1) := by decide +kernel
theorem dJ13_bitCount_95d88_26 : decode cJ13_bitCount_95d88 26 = .ok (.iconst 4, 1) := by decide +kernel
theorem dJ13_bitCount_95d88_27 : decode cJ13_bitCount_95d88 27 = .ok (.lushr, 1) := by decide +kernel
theorem dJ13_bitCount_95d88_28 : decode cJ13_bitCount_95d88 28 = .ok (.ladd, 1) := by decide +kernel
theorem dJ13_bitCount_95d88_29 : decode cJ13_bitCount_95d88 29 = .ok (.ldc2_w 318, 3) := by decide +kernel
theorem dJ13_bitCount_95d88_32 : decode cJ13_bitCount_95d88 32 = .ok (.land, 1) := by decide +kernel
theorem dJ13_bitCount_95d88_33 : decode cJ13_bitCount_95d88 33 = .ok (.lstore_n 0, 1) := by decide +kernel
theorem dJ13_bitCount_95d88_34 : decode cJ13_bitCount_95d88 34 = .ok (.lload_n 0, 1) := by decide +kernel
theorem dJ13_bitCount_95d88_35 : decode cJ13_bitCount_95d88 35 = .ok (.lload_n 0, 1) := by decide +kernel
theorem dJ13_bitCount_95d88_36 : decode cJ13_bitCount_95d88 36 = .ok (.bipush 8, 2) := by decide +kernel
theorem dJ13_bitCount_95d88_38 : decode cJ13_bitCount_95d88 38 = .ok (.lushr, 1) := by decide +kernel
theorem dJ13_bitCount_95d88_39 : decode cJ13_bitCount_95d88 39 = .ok (.ladd, 1) := by decide +kernel
theorem dJ13_bitCount_95d88_40 : decode cJ13_bitCount_95d88 40 = .ok (.lstore_n 0, 1) := by decide +kernel
theorem dJ13_bitCount_95d88_41 : decode cJ13_bitCount_95d88 41 = .ok (.lload_n 0, 1) := by decide +kernel
theorem dJ13_bitCount_95d88_42 : decode cJ13_bitCount_95d88 42 = .ok (.lload_n 0, 1) := by decide +kernel
theorem dJ13_bitCount_95d88_43 : decode cJ13_bitCount_95d88 43 = .ok (.bipush 16, 2) := by decide +kernel
theorem dJ13_bitCount_95d88_45 : decode cJ13_bitCount_95d88 45 = .ok (.lushr, 1) := by decide +kernel
theorem dJ13_bitCount_95d88_46 : decode cJ13_bitCount_95d88 46 = .ok (.ladd, 1) := by decide +kernel
theorem dJ13_bitCount_95d88_47 : decode cJ13_bitCount_95d88 47 = .ok (.lstore_n 0, 1) := by decide +kernel
theorem dJ13_bitCount_95d88_48 : decode cJ13_bitCount_95d88 48 = .ok (.lload_n 0, 1) := by decide +kernel
theorem dJ13_bitCount_95d88_49 : decode cJ13_bitCount_95d88 49 = .ok (.lload_n 0, 1) := by decide +kernel
theorem dJ13_bitCount_95d88_50 : decode cJ13_bitCount_95d88 50 = .ok (.bipush 32, 2) := by decide +kernel
theorem dJ13_bitCount_95d88_52 : decode cJ13_bitCount_95d88 52 = .ok (.lushr, 1) := by decide +kernel
theorem dJ13_bitCount_95d88_53 : decode cJ13_bitCount_95d88 53 = .ok (.ladd, 1) := by decide +kernel
theorem dJ13_bitCount_95d88_54 : decode cJ13_bitCount_95d88 54 = .ok (.lstore_n 0, 1) := by decide +kernel
theorem dJ13_bitCount_95d88_55 : decode cJ13_bitCount_95d88 55 = .ok (.lload_n 0, 1) := by decide +kernel
theorem dJ13_bitCount_95d88_56 : decode cJ13_bitCount_95d88 56 = .ok (.l2i, 1) := by decide +kernel
theorem dJ13_bitCount_95d88_57 : decode cJ13_bitCount_95d88 57 = .ok (.bipush 127, 2) := by decide +kernel
theorem dJ13_bitCount_95d88_59 : decode cJ13_bitCount_95d88 59 = .ok (.iand, 1) := by decide +kernel
theorem dJ13_bitCount_95d88_60 : decode cJ13_bitCount_95d88 60 = .ok (.ireturn, 1) := by decide +kernel
theorem dJ9_max_7cf53_0 : decode cJ9_max_7cf53 0 = .ok (.iload_n 0, 1) := by decide +kernel
theorem dJ9_max_7cf53_1 : decode cJ9_max_7cf53 1 = .ok (.iload_n 1, 1) := by decide +kernel
theorem dJ9_max_7cf53_2 : decode cJ9_max_7cf53 2 = .ok (.if_icmp .lt 7, 3) := by decide +kernel
theorem dJ9_max_7cf53_5 : decode cJ9_max_7cf53 5 = .ok (.iload_n 0, 1) := by decide +kernel
theorem dJ9_max_7cf53_6 : decode cJ9_max_7cf53 6 = .ok (.goto 4, 3) := by decide +kernel
theorem dJ9_max_7cf53_9 : decode cJ9_max_7cf53 9 = .ok (.iload_n 1, 1) := by decide +kernel
theorem dJ9_max_7cf53_10 : decode cJ9_max_7cf53 10 = .ok (.ireturn, 1) := by decide +kernel
theorem dJ9_min_7cf53_0 : decode cJ9_min_7cf53 0 = .ok (.iload_n 0, 1) := by decide +kernel
theorem dJ9_min_7cf53_1 : decode cJ9_min_7cf53 1 = .ok (.iload_n 1, 1) := by decide +kernel
theorem dJ9_min_7cf53_2 : decode cJ9_min_7cf53 2 = .ok (.if_icmp .gt 7, 3) := by decide +kernel
theorem dJ9_min_7cf53_5 : decode cJ9_min_7cf53 5 = .ok (.iload_n 0, 1) := by decide +kernel
theorem dJ9_min_7cf53_6 : decode cJ9_min_7cf53 6 = .ok (.goto 4, 3) := by decide +kernel
theorem dJ9_min_7cf53_9 : decode cJ9_min_7cf53 9 = .ok (.iload_n 1, 1) := by decide +kernel
theorem dJ9_min_7cf53_10 : decode cJ9_min_7cf53 10 = .ok (.ireturn, 1) := by decide +kernel
