theorem dX8_keep_52 : decode cX8_keep 52 = .ok (.iload_n 2, 1) := by decide +kernel
theorem dX8_keep_53 : decode cX8_keep 53 = .ok (.invokevirtual 154, 3) := by decide +kernel
theorem dX8_keep_56 : decode cX8_keep 56 = .ok (.iload_n 1, 1) := by decide +kernel
theorem dX8_keep_57 : decode cX8_keep 57 = .ok (.iload_n 2, 1) := by decide +kernel
theorem dX8_keep_58 : decode cX8_keep 58 = .ok (.invokevirtual 174, 3) := by decide +kernel
theorem dX8_keep_61 : decode cX8_keep 61 = .ok (.iinc 2 1, 3) := by decide +kernel
theorem dX8_keep_64 : decode cX8_keep 64 = .ok (.goto (-33), 3) := by decide +kernel
theorem dX8_keep_67 : decode cX8_keep 67 = .ok (.iinc 1 1, 3) := by decide +kernel
theorem dX8_keep_70 : decode cX8_keep 70 = .ok (.goto (-52), 3) := by decide +kernel
theorem dX8_keep_73 : decode cX8_keep 73 = .ok (.aload_n 0, 1) := by decide +kernel
theorem dX8_keep_74 : decode cX8_keep 74 = .ok (.getfield 37, 3) := by decide +kernel
theorem dX8_keep_77 : decode cX8_keep 77 = .ok (.invokevirtual 177, 3) := by decide +kernel
theorem dX8_keep_80 : decode cX8_keep 80 = .ok (.aload_n 0, 1) := by decide +kernel
theorem dX8_keep_81 : decode cX8_keep 81 = .ok (.iconst 0, 1) := by decide +kernel
theorem dX8_keep_82 : decode cX8_keep 82 = .ok (.putfield 70, 3) := by decide +kernel
theorem dX8_keep_85 : decode cX8_keep 85 = .ok (.iconst 1, 1) := by decide +kernel
theorem dX8_keep_86 : decode cX8_keep 86 = .ok (.ireturn, 1) := by decide +kernel
theorem dX8_forget_0 : decode cX8_forget 0 = .ok (.aload_n 0, 1) := by decide +kernel
theorem dX8_forget_1 : decode cX8_forget 1 = .ok (.getfield 37, 3) := by decide +kernel
theorem dX8_forget_4 : decode cX8_forget 4 = .ok (.invokevirtual 108, 3) := by decide +kernel
theorem dX8_forget_7 : decode cX8_forget 7 = .ok (.ifCond .eq 15, 3) := by decide +kernel
theorem dX8_forget_10 : decode cX8_forget 10 = .ok (.aload_n 0, 1) := by decide +kernel
theorem dX8_forget_11 : decode cX8_forget 11 = .ok (.getfield 37, 3) := by decide +kernel
theorem dX8_forget_14 : decode cX8_forget 14 = .ok (.invokevirtual 171, 3) := by decide +kernel
theorem dX8_forget_17 : decode cX8_forget 17 = .ok (.aload_n 0, 1) := by decide +kernel
theorem dX8_forget_18 : decode cX8_forget 18 = .ok (.iconst 0, 1) := by decide +kernel
theorem dX8_forget_19 : decode cX8_forget 19 = .ok (.putfield 70, 3) := by decide +kernel
theorem dX8_forget_22 : decode cX8_forget 22 = .ok (.return_, 1) := by decide +kernel
theorem dX8_orders_0 : decode cX8_orders 0 = .ok (.aload_n 0, 1) := by decide +kernel
theorem dX8_orders_1 : decode cX8_orders 1 = .ok (.invokevirtual 133, 3) := by decide +kernel
theorem dX8_orders_4 : decode cX8_orders 4 = .ok (.ifCond .eq 13, 3) := by decide +kernel
theorem dX8_orders_7 : decode cX8_orders 7 = .ok (.aload_n 0, 1) := by decide +kernel
theorem dX8_orders_8 : decode cX8_orders 8 = .ok (.getfield 46, 3) := by decide +kernel
theorem dX8_orders_11 : decode cX8_orders 11 = .ok (.invokevirtual 180, 3) := by decide +kernel
theorem dX8_orders_14 : decode cX8_orders 14 = .ok (.goto 4, 3) := by decide +kernel
theorem dX8_orders_17 : decode cX8_orders 17 = .ok (.iconst (-1), 1) := by decide +kernel
theorem dX8_orders_18 : decode cX8_orders 18 = .ok (.ireturn, 1) := by decide +kernel
theorem dX8_isPlace_0 : decode cX8_isPlace 0 = .ok (.iload_n 0, 1) := by decide +kernel
theorem dX8_isPlace_1 : decode cX8_isPlace 1 = .ok (.ifCond .lt 13, 3) := by decide +kernel
theorem dX8_isPlace_4 : decode cX8_isPlace 4 = .ok (.iload_n 0, 1) := by decide +kernel
theorem dX8_isPlace_5 : decode cX8_isPlace 5 = .ok (.bipush 10, 2) := by decide +kernel
theorem dX8_isPlace_7 : decode cX8_isPlace 7 = .ok (.if_icmp .ge 7, 3) := by decide +kernel
theorem dX8_isPlace_10 : decode cX8_isPlace 10 = .ok (.iconst 1, 1) := by decide +kernel
theorem dX8_isPlace_11 : decode cX8_isPlace 11 = .ok (.goto 4, 3) := by decide +kernel
theorem dX8_isPlace_14 : decode cX8_isPlace 14 = .ok (.iconst 0, 1) := by decide +kernel
theorem dX8_isPlace_15 : decode cX8_isPlace 15 = .ok (.ireturn, 1) := by decide +kernel
theorem dX8_arePlaces_0 : decode cX8_arePlaces 0 = .ok (.iload_n 0, 1) := by decide +kernel
theorem dX8_arePlaces_1 : decode cX8_arePlaces 1 = .ok (.ifCond .lt 23, 3) := by decide +kernel
theorem dX8_arePlaces_4 : decode cX8_arePlaces 4 = .ok (.iload_n 0, 1) := by decide +kernel
theorem dX8_arePlaces_5 : decode cX8_arePlaces 5 = .ok (.bipush 10, 2) := by decide +kernel
theorem dX8_arePlaces_7 : decode cX8_arePlaces 7 = .ok (.if_icmp .ge 17, 3) := by decide +kernel
theorem dX8_arePlaces_10 : decode cX8_arePlaces 10 = .ok (.iload_n 1, 1) := by decide +kernel
theorem dX8_arePlaces_11 : decode cX8_arePlaces 11 = .ok (.ifCond .lt 13, 3) := by decide +kernel
theorem dX8_arePlaces_14 : decode cX8_arePlaces 14 = .ok (.iload_n 1, 1) := by decide +kernel
theorem dX8_arePlaces_15 : decode cX8_arePlaces 15 = .ok (.bipush 10, 2) := by decide +kernel
theorem dX8_arePlaces_17 : decode cX8_arePlaces 17 = .ok (.if_icmp .ge 7, 3) := by decide +kernel
theorem dX8_arePlaces_20 : decode cX8_arePlaces 20 = .ok (.iconst 1, 1) := by decide +kernel
theorem dX8_arePlaces_21 : decode cX8_arePlaces 21 = .ok (.goto 4, 3) := by decide +kernel
theorem dX8_arePlaces_24 : decode cX8_arePlaces 24 = .ok (.iconst 0, 1) := by decide +kernel
theorem dX8_arePlaces_25 : decode cX8_arePlaces 25 = .ok (.ireturn, 1) := by decide +kernel
theorem dX8_pair_0 : decode cX8_pair 0 = .ok (.iload_n 0, 1) := by decide +kernel
theorem dX8_pair_1 : decode cX8_pair 1 = .ok (.iconst 5, 1) := by decide +kernel
theorem dX8_pair_2 : decode cX8_pair 2 = .ok (.imul, 1) := by decide +kernel
theorem dX8_pair_3 : decode cX8_pair 3 = .ok (.iload_n 1, 1) := by decide +kernel
theorem dX8_pair_4 : decode cX8_pair 4 = .ok (.iadd, 1) := by decide +kernel
theorem dX8_pair_5 : decode cX8_pair 5 = .ok (.ireturn, 1) := by decide +kernel
theorem dX8_freshRanking_0 : decode cX8_freshRanking 0 = .ok (.aload_n 0, 1) := by decide +kernel
theorem dX8_freshRanking_1 : decode cX8_freshRanking 1 = .ok (.getfield 66, 3) := by decide +kernel
theorem dX8_freshRanking_4 : decode cX8_freshRanking 4 = .ok (.ifCond .ne 22, 3) := by decide +kernel
theorem dX8_freshRanking_7 : decode cX8_freshRanking 7 = .ok (.aload_n 0, 1) := by decide +kernel
theorem dX8_freshRanking_8 : decode cX8_freshRanking 8 = .ok (.getfield 21, 3) := by decide +kernel
theorem dX8_freshRanking_11 : decode cX8_freshRanking 11 = .ok (.invokevirtual 183, 3) := by decide +kernel
theorem dX8_freshRanking_14 : decode cX8_freshRanking 14 = .ok (.aload_n 0, 1) := by decide +kernel
theorem dX8_freshRanking_15 : decode cX8_freshRanking 15 = .ok (.getfield 30, 3) := by decide +kernel
theorem dX8_freshRanking_18 : decode cX8_freshRanking 18 = .ok (.invokevirtual 186, 3) := by decide +kernel
theorem dX8_freshRanking_21 : decode cX8_freshRanking 21 = .ok (.aload_n 0, 1) := by decide +kernel
theorem dX8_freshRanking_22 : decode cX8_freshRanking 22 = .ok (.iconst 1, 1) := by decide +kernel
theorem dX8_freshRanking_23 : decode cX8_freshRanking 23 = .ok (.putfield 66, 3) := by decide +kernel
theorem dX8_freshRanking_26 : decode cX8_freshRanking 26 = .ok (.aload_n 0, 1) := by decide +kernel
theorem dX8_freshRanking_27 : decode cX8_freshRanking 27 = .ok (.getfield 21, 3) := by decide +kernel
theorem dX8_freshRanking_30 : decode cX8_freshRanking 30 = .ok (.areturn, 1) := by decide +kernel
theorem dX8_isLayer_0 : decode cX8_isLayer 0 = .ok (.iload_n 1, 1) := by decide +kernel
theorem dX8_isLayer_1 : decode cX8_isLayer 1 = .ok (.ifCond .lt 18, 3) := by decide +kernel
theorem dX8_isLayer_4 : decode cX8_isLayer 4 = .ok (.iload_n 1, 1) := by decide +kernel
theorem dX8_isLayer_5 : decode cX8_isLayer 5 = .ok (.aload_n 0, 1) := by decide +kernel
theorem dX8_isLayer_6 : decode cX8_isLayer 6 = .ok (.invokevirtual 95, 3) := by decide +kernel
theorem dX8_isLayer_9 : decode cX8_isLayer 9 = .ok (.invokevirtual 105, 3) := by decide +kernel
theorem dX8_isLayer_12 : decode cX8_isLayer 12 = .ok (.if_icmp .ge 7, 3) := by decide +kernel
theorem dX8_isLayer_15 : decode cX8_isLayer 15 = .ok (.iconst 1, 1) := by decide +kernel
theorem dX8_isLayer_16 : decode cX8_isLayer 16 = .ok (.goto 4, 3) := by decide +kernel
theorem dX8_isLayer_19 : decode cX8_isLayer 19 = .ok (.iconst 0, 1) := by decide +kernel
theorem dX8_isLayer_20 : decode cX8_isLayer 20 = .ok (.ireturn, 1) := by decide +kernel
theorem dX8_isDrawn_0 : decode cX8_isDrawn 0 = .ok (.aload_n 0, 1) := by decide +kernel
theorem dX8_isDrawn_1 : decode cX8_isDrawn 1 = .ok (.invokevirtual 95, 3) := by decide +kernel
theorem dX8_isDrawn_4 : decode cX8_isDrawn 4 = .ok (.pop, 1) := by decide +kernel
theorem dX8_isDrawn_5 : decode cX8_isDrawn 5 = .ok (.aload_n 0, 1) := by decide +kernel
theorem dX8_isDrawn_6 : decode cX8_isDrawn 6 = .ok (.getfield 30, 3) := by decide +kernel
theorem dX8_isDrawn_9 : decode cX8_isDrawn 9 = .ok (.invokevirtual 189, 3) := by decide +kernel
theorem dX8_isDrawn_12 : decode cX8_isDrawn 12 = .ok (.ifCond .ne 5, 3) := by decide +kernel
theorem dX8_isDrawn_15 : decode cX8_isDrawn 15 = .ok (.iconst 0, 1) := by decide +kernel
theorem dX8_isDrawn_16 : decode cX8_isDrawn 16 = .ok (.ireturn, 1) := by decide +kernel
theorem dX8_isDrawn_17 : decode cX8_isDrawn 17 = .ok (.aload_n 0, 1) := by decide +kernel
theorem dX8_isDrawn_18 : decode cX8_isDrawn 18 = .ok (.getfield 70, 3) := by decide +kernel
theorem dX8_isDrawn_21 : decode cX8_isDrawn 21 = .ok (.ifCond .ne 19, 3) := by decide +kernel
theorem dX8_isDrawn_24 : decode cX8_isDrawn 24 = .ok (.aload_n 0, 1) := by decide +kernel
theorem dX8_isDrawn_25 : decode cX8_isDrawn 25 = .ok (.getfield 46, 3) := by decide +kernel
theorem dX8_isDrawn_28 : decode cX8_isDrawn 28 = .ok (.aload_n 0, 1) := by decide +kernel
theorem dX8_isDrawn_29 : decode cX8_isDrawn 29 = .ok (.getfield 63, 3) := by decide +kernel
theorem dX8_isDrawn_32 : decode cX8_isDrawn 32 = .ok (.invokevirtual 192, 3) := by decide +kernel
theorem dX8_isDrawn_35 : decode cX8_isDrawn 35 = .ok (.aload_n 0, 1) := by decide +kernel
theorem dX8_isDrawn_36 : decode cX8_isDrawn 36 = .ok (.iconst 1, 1) := by decide +kernel
theorem dX8_isDrawn_37 : decode cX8_isDrawn 37 = .ok (.putfield 70, 3) := by decide +kernel
theorem dX8_isDrawn_40 : decode cX8_isDrawn 40 = .ok (.iconst 1, 1) := by decide +kernel
theorem dX8_isDrawn_41 : decode cX8_isDrawn 41 = .ok (.ireturn, 1) := by decide +kernel
theorem dX9_init_0 : decode cX9_init 0 = .ok (.aload_n 0, 1) := by decide +kernel
theorem dX9_init_1 : decode cX9_init 1 = .ok (.invokespecial 1, 3) := by decide +kernel
theorem dX9_init_4 : decode cX9_init 4 = .ok (.aload_n 0, 1) := by decide +kernel
theorem dX9_init_5 : decode cX9_init 5 = .ok (.bipush 100, 2) := by decide +kernel
theorem dX9_init_7 : decode cX9_init 7 = .ok (.newarray .int, 2) := by decide +kernel
theorem dX9_init_9 : decode cX9_init 9 = .ok (.putfield 7, 3) := by decide +kernel
theorem dX9_init_12 : decode cX9_init 12 = .ok (.aload_n 0, 1) := by decide +kernel
theorem dX9_init_13 : decode cX9_init 13 = .ok (.iconst 4, 1) := by decide +kernel
theorem dX9_init_14 : decode cX9_init 14 = .ok (.putfield 13, 3) := by decide +kernel
theorem dX9_init_17 : decode cX9_init 17 = .ok (.aload_n 0, 1) := by decide +kernel
theorem dX9_init_18 : decode cX9_init 18 = .ok (.bipush 10, 2) := by decide +kernel
theorem dX9_init_20 : decode cX9_init 20 = .ok (.newarray .int, 2) := by decide +kernel
theorem dX9_init_22 : decode cX9_init 22 = .ok (.dup, 1) := by decide +kernel
theorem dX9_init_23 : decode cX9_init 23 = .ok (.iconst 0, 1) := by decide +kernel
theorem dX9_init_24 : decode cX9_init 24 = .ok (.iconst (-1), 1) := by decide +kernel
theorem dX9_init_25 : decode cX9_init 25 = .ok (.iastore, 1) := by decide +kernel
theorem dX9_init_26 : decode cX9_init 26 = .ok (.dup, 1) := by decide +kernel
theorem dX9_init_27 : decode cX9_init 27 = .ok (.iconst 1, 1) := by decide +kernel
theorem dX9_init_28 : decode cX9_init 28 = .ok (.iconst (-1), 1) := by decide +kernel
theorem dX9_init_29 : decode cX9_init 29 = .ok (.iastore, 1) := by decide +kernel
theorem dX9_init_30 : decode cX9_init 30 = .ok (.dup, 1) := by decide +kernel
theorem dX9_init_31 : decode cX9_init 31 = .ok (.iconst 2, 1) := by decide +kernel
theorem dX9_init_32 : decode cX9_init 32 = .ok (.iconst (-1), 1) := by decide +kernel
theorem dX9_init_33 : decode cX9_init 33 = .ok (.iastore, 1) := by decide +kernel
theorem dX9_init_34 : decode cX9_init 34 = .ok (.dup, 1) := by decide +kernel
theorem dX9_init_35 : decode cX9_init 35 = .ok (.iconst 3, 1) := by decide +kernel
theorem dX9_init_36 : decode cX9_init 36 = .ok (.iconst (-1), 1) := by decide +kernel
theorem dX9_init_37 : decode cX9_init 37 = .ok (.iastore, 1) := by decide +kernel
theorem dX9_init_38 : decode cX9_init 38 = .ok (.dup, 1) := by decide +kernel
theorem dX9_init_39 : decode cX9_init 39 = .ok (.iconst 4, 1) := by decide +kernel
theorem dX9_init_40 : decode cX9_init 40 = .ok (.iconst (-1), 1) := by decide +kernel
theorem dX9_init_41 : decode cX9_init 41 = .ok (.iastore, 1) := by decide +kernel
theorem dX9_init_42 : decode cX9_init 42 = .ok (.dup, 1) := by decide +kernel
theorem dX9_init_43 : decode cX9_init 43 = .ok (.iconst 5, 1) := by decide +kernel
theorem dX9_init_44 : decode cX9_init 44 = .ok (.iconst (-1), 1) := by decide +kernel
theorem dX9_init_45 : decode cX9_init 45 = .ok (.iastore, 1) := by decide +kernel
theorem dX9_init_46 : decode cX9_init 46 = .ok (.dup, 1) := by decide +kernel
theorem dX9_init_47 : decode cX9_init 47 = .ok (.bipush 6, 2) := by decide +kernel
theorem dX9_init_49 : decode cX9_init 49 = .ok (.iconst (-1), 1) := by decide +kernel
theorem dX9_init_50 : decode cX9_init 50 = .ok (.iastore, 1) := by decide +kernel
theorem dX9_init_51 : decode cX9_init 51 = .ok (.dup, 1) := by decide +kernel
theorem dX9_init_52 : decode cX9_init 52 = .ok (.bipush 7, 2) := by decide +kernel
theorem dX9_init_54 : decode cX9_init 54 = .ok (.iconst (-1), 1) := by decide +kernel
theorem dX9_init_55 : decode cX9_init 55 = .ok (.iastore, 1) := by decide +kernel
theorem dX9_init_56 : decode cX9_init 56 = .ok (.dup, 1) := by decide +kernel
theorem dX9_init_57 : decode cX9_init 57 = .ok (.bipush 8, 2) := by decide +kernel
theorem dX9_init_59 : decode cX9_init 59 = .ok (.iconst (-1), 1) := by decide +kernel
theorem dX9_init_60 : decode cX9_init 60 = .ok (.iastore, 1) := by decide +kernel
theorem dX9_init_61 : decode cX9_init 61 = .ok (.dup, 1) := by decide +kernel
theorem dX9_init_62 : decode cX9_init 62 = .ok (.bipush 9, 2) := by decide +kernel
theorem dX9_init_64 : decode cX9_init 64 = .ok (.iconst (-1), 1) := by decide +kernel
theorem dX9_init_65 : decode cX9_init 65 = .ok (.iastore, 1) := by decide +kernel
theorem dX9_init_66 : decode cX9_init 66 = .ok (.putfield 17, 3) := by decide +kernel
theorem dX9_init_69 : decode cX9_init 69 = .ok (.aload_n 0, 1) := by decide +kernel
theorem dX9_init_70 : decode cX9_init 70 = .ok (.bipush 10, 2) := by decide +kernel
theorem dX9_init_72 : decode cX9_init 72 = .ok (.newarray .int, 2) := by decide +kernel
theorem dX9_init_74 : decode cX9_init 74 = .ok (.putfield 20, 3) := by decide +kernel
theorem dX9_init_77 : decode cX9_init 77 = .ok (.aload_n 0, 1) := by decide +kernel
theorem dX9_init_78 : decode cX9_init 78 = .ok (.bipush 10, 2) := by decide +kernel
theorem dX9_init_80 : decode cX9_init 80 = .ok (.newarray .int, 2) := by decide +kernel
theorem dX9_init_82 : decode cX9_init 82 = .ok (.putfield 23, 3) := by decide +kernel
theorem dX9_init_85 : decode cX9_init 85 = .ok (.aload_n 0, 1) := by decide +kernel
theorem dX9_init_86 : decode cX9_init 86 = .ok (.bipush 10, 2) := by decide +kernel
theorem dX9_init_88 : decode cX9_init 88 = .ok (.newarray .int, 2) := by decide +kernel
theorem dX9_init_90 : decode cX9_init 90 = .ok (.putfield 26, 3) := by decide +kernel
theorem dX9_init_93 : decode cX9_init 93 = .ok (.aload_n 0, 1) := by decide +kernel
theorem dX9_init_94 : decode cX9_init 94 = .ok (.bipush 10, 2) := by decide +kernel
theorem dX9_init_96 : decode cX9_init 96 = .ok (.newarray .int, 2) := by decide +kernel
theorem dX9_init_98 : decode cX9_init 98 = .ok (.putfield 29, 3) := by decide +kernel
theorem dX9_init_101 : decode cX9_init 101 = .ok (.aload_n 0, 1) := by decide +kernel
theorem dX9_init_102 : decode cX9_init 102 = .ok (.sipush 1024, 3) := by decide +kernel
theorem dX9_init_105 : decode cX9_init 105 = .ok (.newarray .int, 2) := by decide +kernel
theorem dX9_init_107 : decode cX9_init 107 = .ok (.putfield 32, 3) := by decide +kernel
theorem dX9_init_110 : decode cX9_init 110 = .ok (.aload_n 0, 1) := by decide +kernel
theorem dX9_init_111 : decode cX9_init 111 = .ok (.bipush 10, 2) := by decide +kernel
theorem dX9_init_113 : decode cX9_init 113 = .ok (.newarray .int, 2) := by decide +kernel
theorem dX9_init_115 : decode cX9_init 115 = .ok (.putfield 35, 3) := by decide +kernel
theorem dX9_init_118 : decode cX9_init 118 = .ok (.aload_n 0, 1) := by decide +kernel
theorem dX9_init_119 : decode cX9_init 119 = .ok (.sipush 300, 3) := by decide +kernel
theorem dX9_init_122 : decode cX9_init 122 = .ok (.newarray .int, 2) := by decide +kernel
theorem dX9_init_124 : decode cX9_init 124 = .ok (.putfield 38, 3) := by decide +kernel
theorem dX9_init_127 : decode cX9_init 127 = .ok (.aload_n 0, 1) := by decide +kernel
theorem dX9_init_128 : decode cX9_init 128 = .ok (.bipush 10, 2) := by decide +kernel
theorem dX9_init_130 : decode cX9_init 130 = .ok (.newarray .int, 2) := by decide +kernel
theorem dX9_init_132 : decode cX9_init 132 = .ok (.putfield 41, 3) := by decide +kernel
theorem dX9_init_135 : decode cX9_init 135 = .ok (.aload_n 0, 1) := by decide +kernel
theorem dX9_init_136 : decode cX9_init 136 = .ok (.sipush 160, 3) := by decide +kernel
theorem dX9_init_139 : decode cX9_init 139 = .ok (.newarray .int, 2) := by decide +kernel
theorem dX9_init_141 : decode cX9_init 141 = .ok (.putfield 44, 3) := by decide +kernel
theorem dX9_init_144 : decode cX9_init 144 = .ok (.aload_n 0, 1) := by decide +kernel
theorem dX9_init_145 : decode cX9_init 145 = .ok (.sipush 160, 3) := by decide +kernel
theorem dX9_init_148 : decode cX9_init 148 = .ok (.newarray .int, 2) := by decide +kernel
theorem dX9_init_150 : decode cX9_init 150 = .ok (.putfield 47, 3) := by decide +kernel
theorem dX9_init_153 : decode cX9_init 153 = .ok (.aload_n 0, 1) := by decide +kernel
theorem dX9_init_154 : decode cX9_init 154 = .ok (.sipush 160, 3) := by decide +kernel
theorem dX9_init_157 : decode cX9_init 157 = .ok (.newarray .int, 2) := by decide +kernel
theorem dX9_init_159 : decode cX9_init 159 = .ok (.putfield 50, 3) := by decide +kernel
theorem dX9_init_162 : decode cX9_init 162 = .ok (.aload_n 0, 1) := by decide +kernel
theorem dX9_init_163 : decode cX9_init 163 = .ok (.sipush 3600, 3) := by decide +kernel
theorem dX9_init_166 : decode cX9_init 166 = .ok (.newarray .int, 2) := by decide +kernel
theorem dX9_init_168 : decode cX9_init 168 = .ok (.putfield 53, 3) := by decide +kernel
theorem dX9_init_171 : decode cX9_init 171 = .ok (.aload_n 0, 1) := by decide +kernel
theorem dX9_init_172 : decode cX9_init 172 = .ok (.sipush 1200, 3) := by decide +kernel
theorem dX9_init_175 : decode cX9_init 175 = .ok (.newarray .int, 2) := by decide +kernel
theorem dX9_init_177 : decode cX9_init 177 = .ok (.putfield 56, 3) := by decide +kernel
theorem dX9_init_180 : decode cX9_init 180 = .ok (.aload_n 0, 1) := by decide +kernel
theorem dX9_init_181 : decode cX9_init 181 = .ok (.sipush 1200, 3) := by decide +kernel
theorem dX9_init_184 : decode cX9_init 184 = .ok (.newarray .int, 2) := by decide +kernel
theorem dX9_init_186 : decode cX9_init 186 = .ok (.putfield 59, 3) := by decide +kernel
theorem dX9_init_189 : decode cX9_init 189 = .ok (.aload_n 0, 1) := by decide +kernel
theorem dX9_init_190 : decode cX9_init 190 = .ok (.bipush 10, 2) := by decide +kernel
theorem dX9_init_192 : decode cX9_init 192 = .ok (.newarray .int, 2) := by decide +kernel
theorem dX9_init_194 : decode cX9_init 194 = .ok (.putfield 62, 3) := by decide +kernel
theorem dX9_init_197 : decode cX9_init 197 = .ok (.return_, 1) := by decide +kernel
theorem dX9_isPlace_0 : decode cX9_isPlace 0 = .ok (.iload_n 1, 1) := by decide +kernel
theorem dX9_isPlace_1 : decode cX9_isPlace 1 = .ok (.ifCond .lt 13, 3) := by decide +kernel
theorem dX9_isPlace_4 : decode cX9_isPlace 4 = .ok (.iload_n 1, 1) := by decide +kernel
theorem dX9_isPlace_5 : decode cX9_isPlace 5 = .ok (.bipush 10, 2) := by decide +kernel
theorem dX9_isPlace_7 : decode cX9_isPlace 7 = .ok (.if_icmp .ge 7, 3) := by decide +kernel
theorem dX9_isPlace_10 : decode cX9_isPlace 10 = .ok (.iconst 1, 1) := by decide +kernel
theorem dX9_isPlace_11 : decode cX9_isPlace 11 = .ok (.goto 4, 3) := by decide +kernel
theorem dX9_isPlace_14 : decode cX9_isPlace 14 = .ok (.iconst 0, 1) := by decide +kernel
theorem dX9_isPlace_15 : decode cX9_isPlace 15 = .ok (.ireturn, 1) := by decide +kernel
theorem dX9_flows_0 : decode cX9_flows 0 = .ok (.iconst 0, 1) := by decide +kernel
theorem dX9_flows_1 : decode cX9_flows 1 = .ok (.istore_n 1, 1) := by decide +kernel
theorem dX9_flows_2 : decode cX9_flows 2 = .ok (.iconst 0, 1) := by decide +kernel
theorem dX9_flows_3 : decode cX9_flows 3 = .ok (.istore_n 2, 1) := by decide +kernel
theorem dX9_flows_4 : decode cX9_flows 4 = .ok (.iload_n 2, 1) := by decide +kernel
theorem dX9_flows_5 : decode cX9_flows 5 = .ok (.bipush 100, 2) := by decide +kernel
theorem dX9_flows_7 : decode cX9_flows 7 = .ok (.if_icmp .ge 22, 3) := by decide +kernel
theorem dX9_flows_10 : decode cX9_flows 10 = .ok (.aload_n 0, 1) := by decide +kernel
theorem dX9_flows_11 : decode cX9_flows 11 = .ok (.getfield 7, 3) := by decide +kernel
theorem dX9_flows_14 : decode cX9_flows 14 = .ok (.iload_n 2, 1) := by decide +kernel
theorem dX9_flows_15 : decode cX9_flows 15 = .ok (.iaload, 1) := by decide +kernel
theorem dX9_flows_16 : decode cX9_flows 16 = .ok (.ifCond .le 7, 3) := by decide +kernel
theorem dX9_flows_19 : decode cX9_flows 19 = .ok (.iload_n 1, 1) := by decide +kernel
theorem dX9_flows_20 : decode cX9_flows 20 = .ok (.iconst 1, 1) := by decide +kernel
theorem dX9_flows_21 : decode cX9_flows 21 = .ok (.iadd, 1) := by decide +kernel
theorem dX9_flows_22 : decode cX9_flows 22 = .ok (.istore_n 1, 1) := by decide +kernel
theorem dX9_flows_23 : decode cX9_flows 23 = .ok (.iinc 2 1, 3) := by decide +kernel
theorem dX9_flows_26 : decode cX9_flows 26 = .ok (.goto (-22), 3) := by decide +kernel
theorem dX9_flows_29 : decode cX9_flows 29 = .ok (.iload_n 1, 1) := by decide +kernel
theorem dX9_flows_30 : decode cX9_flows 30 = .ok (.ireturn, 1) := by decide +kernel
theorem dX9_flow_0 : decode cX9_flow 0 = .ok (.aload_n 0, 1) := by decide +kernel
theorem dX9_flow_1 : decode cX9_flow 1 = .ok (.iconst 0, 1) := by decide +kernel
theorem dX9_flow_2 : decode cX9_flow 2 = .ok (.putfield 65, 3) := by decide +kernel
theorem dX9_flow_5 : decode cX9_flow 5 = .ok (.aload_n 0, 1) := by decide +kernel
theorem dX9_flow_6 : decode cX9_flow 6 = .ok (.iload_n 1, 1) := by decide +kernel
theorem dX9_flow_7 : decode cX9_flow 7 = .ok (.invokevirtual 68, 3) := by decide +kernel
theorem dX9_flow_10 : decode cX9_flow 10 = .ok (.ifCond .eq 26, 3) := by decide +kernel
theorem dX9_flow_13 : decode cX9_flow 13 = .ok (.aload_n 0, 1) := by decide +kernel
theorem dX9_flow_14 : decode cX9_flow 14 = .ok (.iload_n 2, 1) := by decide +kernel
theorem dX9_flow_15 : decode cX9_flow 15 = .ok (.invokevirtual 68, 3) := by decide +kernel
theorem dX9_flow_18 : decode cX9_flow 18 = .ok (.ifCond .eq 18, 3) := by decide +kernel
theorem dX9_flow_21 : decode cX9_flow 21 = .ok (.iload_n 1, 1) := by decide +kernel
theorem dX9_flow_22 : decode cX9_flow 22 = .ok (.iload_n 2, 1) := by decide +kernel
theorem dX9_flow_23 : decode cX9_flow 23 = .ok (.if_icmp .eq 13, 3) := by decide +kernel
theorem dX9_flow_26 : decode cX9_flow 26 = .ok (.iload_n 3, 1) := by decide +kernel
theorem dX9_flow_27 : decode cX9_flow 27 = .ok (.ifCond .lt 9, 3) := by decide +kernel
theorem dX9_flow_30 : decode cX9_flow 30 = .ok (.iload_n 3, 1) := by decide +kernel
theorem dX9_flow_31 : decode cX9_flow 31 = .ok (.bipush 99, 2) := by decide +kernel
theorem dX9_flow_33 : decode cX9_flow 33 = .ok (.if_icmp .le 5, 3) := by decide +kernel
theorem dX9_flow_36 : decode cX9_flow 36 = .ok (.iconst 0, 1) := by decide +kernel
theorem dX9_flow_37 : decode cX9_flow 37 = .ok (.ireturn, 1) := by decide +kernel
theorem dX9_flow_38 : decode cX9_flow 38 = .ok (.iload_n 3, 1) := by decide +kernel
theorem dX9_flow_39 : decode cX9_flow 39 = .ok (.ifCond .le 28, 3) := by decide +kernel
theorem dX9_flow_42 : decode cX9_flow 42 = .ok (.aload_n 0, 1) := by decide +kernel
theorem dX9_flow_43 : decode cX9_flow 43 = .ok (.getfield 7, 3) := by decide +kernel
theorem dX9_flow_46 : decode cX9_flow 46 = .ok (.bipush 10, 2) := by decide +kernel
theorem dX9_flow_48 : decode cX9_flow 48 = .ok (.iload_n 1, 1) := by decide +kernel
theorem dX9_flow_49 : decode cX9_flow 49 = .ok (.imul, 1) := by decide +kernel
theorem dX9_flow_50 : decode cX9_flow 50 = .ok (.iload_n 2, 1) := by decide +kernel
theorem dX9_flow_51 : decode cX9_flow 51 = .ok (.iadd, 1) := by decide +kernel
theorem dX9_flow_52 : decode cX9_flow 52 = .ok (.iaload, 1) := by decide +kernel
theorem dX9_flow_53 : decode cX9_flow 53 = .ok (.ifCond .ne 14, 3) := by decide +kernel
theorem dX9_flow_56 : decode cX9_flow 56 = .ok (.aload_n 0, 1) := by decide +kernel
theorem dX9_flow_57 : decode cX9_flow 57 = .ok (.invokevirtual 72, 3) := by decide +kernel
theorem dX9_flow_60 : decode cX9_flow 60 = .ok (.bipush 16, 2) := by decide +kernel
theorem dX9_flow_62 : decode cX9_flow 62 = .ok (.if_icmp .ne 5, 3) := by decide +kernel
theorem dX9_flow_65 : decode cX9_flow 65 = .ok (.iconst 0, 1) := by decide +kernel
theorem dX9_flow_66 : decode cX9_flow 66 = .ok (.ireturn, 1) := by decide +kernel
theorem dX9_flow_67 : decode cX9_flow 67 = .ok (.aload_n 0, 1) := by decide +kernel
theorem dX9_flow_68 : decode cX9_flow 68 = .ok (.getfield 7, 3) := by decide +kernel
theorem dX9_flow_71 : decode cX9_flow 71 = .ok (.bipush 10, 2) := by decide +kernel
theorem dX9_flow_73 : decode cX9_flow 73 = .ok (.iload_n 1, 1) := by decide +kernel
theorem dX9_flow_74 : decode cX9_flow 74 = .ok (.imul, 1) := by decide +kernel
theorem dX9_flow_75 : decode cX9_flow 75 = .ok (.iload_n 2, 1) := by decide +kernel
theorem dX9_flow_76 : decode cX9_flow 76 = .ok (.iadd, 1) := by decide +kernel
theorem dX9_flow_77 : decode cX9_flow 77 = .ok (.iload_n 3, 1) := by decide +kernel
theorem dX9_flow_78 : decode cX9_flow 78 = .ok (.iastore, 1) := by decide +kernel
theorem dX9_flow_79 : decode cX9_flow 79 = .ok (.iconst 1, 1) := by decide +kernel
theorem dX9_flow_80 : decode cX9_flow 80 = .ok (.ireturn, 1) := by decide +kernel
theorem dX9_clear_0 : decode cX9_clear 0 = .ok (.aload_n 0, 1) := by decide +kernel
theorem dX9_clear_1 : decode cX9_clear 1 = .ok (.iconst 0, 1) := by decide +kernel
theorem dX9_clear_2 : decode cX9_clear 2 = .ok (.putfield 65, 3) := by decide +kernel
theorem dX9_clear_5 : decode cX9_clear 5 = .ok (.iconst 0, 1) := by decide +kernel
theorem dX9_clear_6 : decode cX9_clear 6 = .ok (.istore_n 1, 1) := by decide +kernel
theorem dX9_clear_7 : decode cX9_clear 7 = .ok (.iload_n 1, 1) := by decide +kernel
theorem dX9_clear_8 : decode cX9_clear 8 = .ok (.bipush 100, 2) := by decide +kernel
theorem dX9_clear_10 : decode cX9_clear 10 = .ok (.if_icmp .ge 16, 3) := by decide +kernel
theorem dX9_clear_13 : decode cX9_clear 13 = .ok (.aload_n 0, 1) := by decide +kernel
theorem dX9_clear_14 : decode cX9_clear 14 = .ok (.getfield 7, 3) := by decide +kernel
theorem dX9_clear_17 : decode cX9_clear 17 = .ok (.iload_n 1, 1) := by decide +kernel
theorem dX9_clear_18 : decode cX9_clear 18 = .ok (.iconst 0, 1) := by decide +kernel
theorem dX9_clear_19 : decode cX9_clear 19 = .ok (.iastore, 1) := by decide +kernel
theorem dX9_clear_20 : decode cX9_clear 20 = .ok (.iinc 1 1, 3) := by decide +kernel
theorem dX9_clear_23 : decode cX9_clear 23 = .ok (.goto (-16), 3) := by decide +kernel
theorem dX9_clear_26 : decode cX9_clear 26 = .ok (.return_, 1) := by decide +kernel
theorem dX9_set_0 : decode cX9_set 0 = .ok (.aload_n 0, 1) := by decide +kernel
theorem dX9_set_1 : decode cX9_set 1 = .ok (.iconst 0, 1) := by decide +kernel
theorem dX9_set_2 : decode cX9_set 2 = .ok (.putfield 65, 3) := by decide +kernel
theorem dX9_set_5 : decode cX9_set 5 = .ok (.iload_n 1, 1) := by decide +kernel
theorem dX9_set_6 : decode cX9_set 6 = .ok (.ifCond .lt 20, 3) := by decide +kernel
theorem dX9_set_9 : decode cX9_set 9 = .ok (.iload_n 1, 1) := by decide +kernel
theorem dX9_set_10 : decode cX9_set 10 = .ok (.bipush 50, 2) := by decide +kernel
theorem dX9_set_12 : decode cX9_set 12 = .ok (.if_icmp .gt 14, 3) := by decide +kernel
theorem dX9_set_15 : decode cX9_set 15 = .ok (.iload_n 2, 1) := by decide +kernel
theorem dX9_set_16 : decode cX9_set 16 = .ok (.ifCond .lt 10, 3) := by decide +kernel
theorem dX9_set_19 : decode cX9_set 19 = .ok (.iload_n 2, 1) := by decide +kernel
theorem dX9_set_20 : decode cX9_set 20 = .ok (.sipush 9999, 3) := by decide +kernel
theorem dX9_set_23 : decode cX9_set 23 = .ok (.if_icmp .le 5, 3) := by decide +kernel
theorem dX9_set_26 : decode cX9_set 26 = .ok (.iconst 0, 1) := by decide +kernel
theorem dX9_set_27 : decode cX9_set 27 = .ok (.ireturn, 1) := by decide +kernel
theorem dX9_set_28 : decode cX9_set 28 = .ok (.aload_n 0, 1) := by decide +kernel
theorem dX9_set_29 : decode cX9_set 29 = .ok (.iload_n 1, 1) := by decide +kernel
theorem dX9_set_30 : decode cX9_set 30 = .ok (.putfield 13, 3) := by decide +kernel
theorem dX9_set_33 : decode cX9_set 33 = .ok (.aload_n 0, 1) := by decide +kernel
theorem dX9_set_34 : decode cX9_set 34 = .ok (.iload_n 2, 1) := by decide +kernel
theorem dX9_set_35 : decode cX9_set 35 = .ok (.putfield 76, 3) := by decide +kernel
theorem dX9_set_38 : decode cX9_set 38 = .ok (.iconst 1, 1) := by decide +kernel
theorem dX9_set_39 : decode cX9_set 39 = .ok (.ireturn, 1) := by decide +kernel
theorem dX9_width_0 : decode cX9_width 0 = .ok (.aload_n 0, 1) := by decide +kernel
theorem dX9_width_1 : decode cX9_width 1 = .ok (.iconst 0, 1) := by decide +kernel
theorem dX9_width_2 : decode cX9_width 2 = .ok (.putfield 65, 3) := by decide +kernel
theorem dX9_width_5 : decode cX9_width 5 = .ok (.aload_n 0, 1) := by decide +kernel
theorem dX9_width_6 : decode cX9_width 6 = .ok (.iload_n 1, 1) := by decide +kernel
theorem dX9_width_7 : decode cX9_width 7 = .ok (.invokevirtual 68, 3) := by decide +kernel
theorem dX9_width_10 : decode cX9_width 10 = .ok (.ifCond .eq 25, 3) := by decide +kernel
theorem dX9_width_13 : decode cX9_width 13 = .ok (.aload_n 0, 1) := by decide +kernel
theorem dX9_width_14 : decode cX9_width 14 = .ok (.iload_n 2, 1) := by decide +kernel
theorem dX9_width_15 : decode cX9_width 15 = .ok (.invokevirtual 68, 3) := by decide +kernel
theorem dX9_width_18 : decode cX9_width 18 = .ok (.ifCond .eq 17, 3) := by decide +kernel
theorem dX9_width_21 : decode cX9_width 21 = .ok (.aload_n 0, 1) := by decide +kernel
theorem dX9_width_22 : decode cX9_width 22 = .ok (.getfield 7, 3) := by decide +kernel
theorem dX9_width_25 : decode cX9_width 25 = .ok (.bipush 10, 2) := by decide +kernel
theorem dX9_width_27 : decode cX9_width 27 = .ok (.iload_n 1, 1) := by decide +kernel
theorem dX9_width_28 : decode cX9_width 28 = .ok (.imul, 1) := by decide +kernel
theorem dX9_width_29 : decode cX9_width 29 = .ok (.iload_n 2, 1) := by decide +kernel
theorem dX9_width_30 : decode cX9_width 30 = .ok (.iadd, 1) := by decide +kernel
theorem dX9_width_31 : decode cX9_width 31 = .ok (.iaload, 1) := by decide +kernel
theorem dX9_width_32 : decode cX9_width 32 = .ok (.goto 4, 3) := by decide +kernel
theorem dX9_width_35 : decode cX9_width 35 = .ok (.iconst 0, 1) := by decide +kernel
theorem dX9_width_36 : decode cX9_width 36 = .ok (.ireturn, 1) := by decide +kernel
theorem dX9_flowsTo_0 : decode cX9_flowsTo 0 = .ok (.iconst 0, 1) := by decide +kernel
theorem dX9_flowsTo_1 : decode cX9_flowsTo 1 = .ok (.istore_n 3, 1) := by decide +kernel
theorem dX9_flowsTo_2 : decode cX9_flowsTo 2 = .ok (.iconst 0, 1) := by decide +kernel
theorem dX9_flowsTo_3 : decode cX9_flowsTo 3 = .ok (.istore 4, 2) := by decide +kernel
theorem dX9_flowsTo_5 : decode cX9_flowsTo 5 = .ok (.iload 4, 2) := by decide +kernel
theorem dX9_flowsTo_7 : decode cX9_flowsTo 7 = .ok (.bipush 10, 2) := by decide +kernel
theorem dX9_flowsTo_9 : decode cX9_flowsTo 9 = .ok (.if_icmp .ge 34, 3) := by decide +kernel
theorem dX9_flowsTo_12 : decode cX9_flowsTo 12 = .ok (.iload_n 2, 1) := by decide +kernel
theorem dX9_flowsTo_13 : decode cX9_flowsTo 13 = .ok (.iload 4, 2) := by decide +kernel
theorem dX9_flowsTo_15 : decode cX9_flowsTo 15 = .ok (.ishr, 1) := by decide +kernel
theorem dX9_flowsTo_16 : decode cX9_flowsTo 16 = .ok (.iconst 1, 1) := by decide +kernel
theorem dX9_flowsTo_17 : decode cX9_flowsTo 17 = .ok (.iand, 1) := by decide +kernel
theorem dX9_flowsTo_18 : decode cX9_flowsTo 18 = .ok (.iconst 1, 1) := by decide +kernel
theorem dX9_flowsTo_19 : decode cX9_flowsTo 19 = .ok (.if_icmp .ne 18, 3) := by decide +kernel
theorem dX9_flowsTo_22 : decode cX9_flowsTo 22 = .ok (.iload_n 3, 1) := by decide +kernel
theorem dX9_flowsTo_23 : decode cX9_flowsTo 23 = .ok (.aload_n 0, 1) := by decide +kernel
theorem dX9_flowsTo_24 : decode cX9_flowsTo 24 = .ok (.getfield 7, 3) := by decide +kernel
theorem dX9_flowsTo_27 : decode cX9_flowsTo 27 = .ok (.bipush 10, 2) := by decide +kernel
theorem dX9_flowsTo_29 : decode cX9_flowsTo 29 = .ok (.iload_n 1, 1) := by decide +kernel
theorem dX9_flowsTo_30 : decode cX9_flowsTo 30 = .ok (.imul, 1) := by decide +kernel
theorem dX9_flowsTo_31 : decode cX9_flowsTo 31 = .ok (.iload 4, 2) := by decide +kernel
theorem dX9_flowsTo_33 : decode cX9_flowsTo 33 = .ok (.iadd, 1) := by decide +kernel
theorem dX9_flowsTo_34 : decode cX9_flowsTo 34 = .ok (.iaload, 1) := by decide +kernel
theorem dX9_flowsTo_35 : decode cX9_flowsTo 35 = .ok (.iadd, 1) := by decide +kernel
theorem dX9_flowsTo_36 : decode cX9_flowsTo 36 = .ok (.istore_n 3, 1) := by decide +kernel
theorem dX9_flowsTo_37 : decode cX9_flowsTo 37 = .ok (.iinc 4 1, 3) := by decide +kernel
theorem dX9_flowsTo_40 : decode cX9_flowsTo 40 = .ok (.goto (-35), 3) := by decide +kernel
theorem dX9_flowsTo_43 : decode cX9_flowsTo 43 = .ok (.iload_n 3, 1) := by decide +kernel
theorem dX9_flowsTo_44 : decode cX9_flowsTo 44 = .ok (.ireturn, 1) := by decide +kernel
theorem dX9_findRow_0 : decode cX9_findRow 0 = .ok (.aload_n 0, 1) := by decide +kernel
theorem dX9_findRow_1 : decode cX9_findRow 1 = .ok (.iconst 0, 1) := by decide +kernel
theorem dX9_findRow_2 : decode cX9_findRow 2 = .ok (.putfield 79, 3) := by decide +kernel
theorem dX9_findRow_5 : decode cX9_findRow 5 = .ok (.iconst 0, 1) := by decide +kernel
theorem dX9_findRow_6 : decode cX9_findRow 6 = .ok (.istore_n 1, 1) := by decide +kernel
theorem dX9_findRow_7 : decode cX9_findRow 7 = .ok (.iload_n 1, 1) := by decide +kernel
theorem dX9_findRow_8 : decode cX9_findRow 8 = .ok (.bipush 10, 2) := by decide +kernel
theorem dX9_findRow_10 : decode cX9_findRow 10 = .ok (.if_icmp .ge 53, 3) := by decide +kernel
theorem dX9_findRow_13 : decode cX9_findRow 13 = .ok (.iconst 0, 1) := by decide +kernel
theorem dX9_findRow_14 : decode cX9_findRow 14 = .ok (.istore_n 2, 1) := by decide +kernel
theorem dX9_findRow_15 : decode cX9_findRow 15 = .ok (.iload_n 2, 1) := by decide +kernel
theorem dX9_findRow_16 : decode cX9_findRow 16 = .ok (.bipush 10, 2) := by decide +kernel
theorem dX9_findRow_18 : decode cX9_findRow 18 = .ok (.if_icmp .ge 39, 3) := by decide +kernel
theorem dX9_findRow_21 : decode cX9_findRow 21 = .ok (.aload_n 0, 1) := by decide +kernel
theorem dX9_findRow_22 : decode cX9_findRow 22 = .ok (.getfield 7, 3) := by decide +kernel
theorem dX9_findRow_25 : decode cX9_findRow 25 = .ok (.bipush 10, 2) := by decide +kernel
theorem dX9_findRow_27 : decode cX9_findRow 27 = .ok (.iload_n 1, 1) := by decide +kernel
theorem dX9_findRow_28 : decode cX9_findRow 28 = .ok (.imul, 1) := by decide +kernel
theorem dX9_findRow_29 : decode cX9_findRow 29 = .ok (.iload_n 2, 1) := by decide +kernel
theorem dX9_findRow_30 : decode cX9_findRow 30 = .ok (.iadd, 1) := by decide +kernel
theorem dX9_findRow_31 : decode cX9_findRow 31 = .ok (.iaload, 1) := by decide +kernel
theorem dX9_findRow_32 : decode cX9_findRow 32 = .ok (.ifCond .le 19, 3) := by decide +kernel
theorem dX9_findRow_35 : decode cX9_findRow 35 = .ok (.aload_n 0, 1) := by decide +kernel
theorem dX9_findRow_36 : decode cX9_findRow 36 = .ok (.aload_n 0, 1) := by decide +kernel
theorem dX9_findRow_37 : decode cX9_findRow 37 = .ok (.getfield 79, 3) := by decide +kernel
theorem dX9_findRow_40 : decode cX9_findRow 40 = .ok (.iconst 1, 1) := by decide +kernel
theorem dX9_findRow_41 : decode cX9_findRow 41 = .ok (.iload_n 1, 1) := by decide +kernel
theorem dX9_findRow_42 : decode cX9_findRow 42 = .ok (.ishl, 1) := by decide +kernel
theorem dX9_findRow_43 : decode cX9_findRow 43 = .ok (.ior, 1) := by decide +kernel
theorem dX9_findRow_44 : decode cX9_findRow 44 = .ok (.iconst 1, 1) := by decide +kernel
theorem dX9_findRow_45 : decode cX9_findRow 45 = .ok (.iload_n 2, 1) := by decide +kernel
theorem dX9_findRow_46 : decode cX9_findRow 46 = .ok (.ishl, 1) := by decide +kernel
theorem dX9_findRow_47 : decode cX9_findRow 47 = .ok (.ior, 1) := by decide +kernel
theorem dX9_findRow_48 : decode cX9_findRow 48 = .ok (.putfield 79, 3) := by decide +kernel
theorem dX9_findRow_51 : decode cX9_findRow 51 = .ok (.iinc 2 1, 3) := by decide +kernel
theorem dX9_findRow_54 : decode cX9_findRow 54 = .ok (.goto (-39), 3) := by decide +kernel
theorem dX9_findRow_57 : decode cX9_findRow 57 = .ok (.iinc 1 1, 3) := by decide +kernel
theorem dX9_findRow_60 : decode cX9_findRow 60 = .ok (.goto (-53), 3) := by decide +kernel
theorem dX9_findRow_63 : decode cX9_findRow 63 = .ok (.aload_n 0, 1) := by decide +kernel
theorem dX9_findRow_64 : decode cX9_findRow 64 = .ok (.getfield 79, 3) := by decide +kernel
theorem dX9_findRow_67 : decode cX9_findRow 67 = .ok (.istore_n 1, 1) := by decide +kernel
theorem dX9_findRow_68 : decode cX9_findRow 68 = .ok (.iload_n 1, 1) := by decide +kernel
theorem dX9_findRow_69 : decode cX9_findRow 69 = .ok (.ifCond .lt 110, 3) := by decide +kernel
theorem dX9_findRow_72 : decode cX9_findRow 72 = .ok (.iload_n 1, 1) := by decide +kernel
theorem dX9_findRow_73 : decode cX9_findRow 73 = .ok (.aload_n 0, 1) := by decide +kernel
theorem dX9_findRow_74 : decode cX9_findRow 74 = .ok (.getfield 79, 3) := by decide +kernel
theorem dX9_findRow_77 : decode cX9_findRow 77 = .ok (.iconst (-1), 1) := by decide +kernel
theorem dX9_findRow_78 : decode cX9_findRow 78 = .ok (.ixor, 1) := by decide +kernel
theorem dX9_findRow_79 : decode cX9_findRow 79 = .ok (.iand, 1) := by decide +kernel
theorem dX9_findRow_80 : decode cX9_findRow 80 = .ok (.ifCond .eq 6, 3) := by decide +kernel
theorem dX9_findRow_83 : decode cX9_findRow 83 = .ok (.goto 90, 3) := by decide +kernel
theorem dX9_findRow_86 : decode cX9_findRow 86 = .ok (.iload_n 1, 1) := by decide +kernel
theorem dX9_findRow_87 : decode cX9_findRow 87 = .ok (.aload_n 0, 1) := by decide +kernel
theorem dX9_findRow_88 : decode cX9_findRow 88 = .ok (.getfield 79, 3) := by decide +kernel
theorem dX9_findRow_91 : decode cX9_findRow 91 = .ok (.if_icmp .ne 7, 3) := by decide +kernel
theorem dX9_findRow_94 : decode cX9_findRow 94 = .ok (.iconst 0, 1) := by decide +kernel
theorem dX9_findRow_95 : decode cX9_findRow 95 = .ok (.goto 5, 3) := by decide +kernel
theorem dX9_findRow_98 : decode cX9_findRow 98 = .ok (.ldc 82, 2) := by decide +kernel
theorem dX9_findRow_100 : decode cX9_findRow 100 = .ok (.istore_n 2, 1) := by decide +kernel
theorem dX9_findRow_101 : decode cX9_findRow 101 = .ok (.iconst 0, 1) := by decide +kernel
theorem dX9_findRow_102 : decode cX9_findRow 102 = .ok (.istore_n 3, 1) := by decide +kernel
theorem dX9_findRow_103 : decode cX9_findRow 103 = .ok (.iload_n 3, 1) := by decide +kernel
theorem dX9_findRow_104 : decode cX9_findRow 104 = .ok (.bipush 10, 2) := by decide +kernel
theorem dX9_findRow_106 : decode cX9_findRow 106 = .ok (.if_icmp .ge 60, 3) := by decide +kernel
theorem dX9_findRow_109 : decode cX9_findRow 109 = .ok (.aload_n 0, 1) := by decide +kernel
theorem dX9_findRow_110 : decode cX9_findRow 110 = .ok (.getfield 79, 3) := by decide +kernel
theorem dX9_findRow_113 : decode cX9_findRow 113 = .ok (.iload_n 3, 1) := by decide +kernel
theorem dX9_findRow_114 : decode cX9_findRow 114 = .ok (.ishr, 1) := by decide +kernel
theorem dX9_findRow_115 : decode cX9_findRow 115 = .ok (.iconst 1, 1) := by decide +kernel
theorem dX9_findRow_116 : decode cX9_findRow 116 = .ok (.iand, 1) := by decide +kernel
theorem dX9_findRow_117 : decode cX9_findRow 117 = .ok (.ifCond .eq 43, 3) := by decide +kernel
theorem dX9_findRow_120 : decode cX9_findRow 120 = .ok (.iload_n 1, 1) := by decide +kernel
theorem dX9_findRow_121 : decode cX9_findRow 121 = .ok (.iload_n 3, 1) := by decide +kernel
theorem dX9_findRow_122 : decode cX9_findRow 122 = .ok (.ishr, 1) := by decide +kernel
theorem dX9_findRow_123 : decode cX9_findRow 123 = .ok (.iconst 1, 1) := by decide +kernel
theorem dX9_findRow_124 : decode cX9_findRow 124 = .ok (.iand, 1) := by decide +kernel
theorem dX9_findRow_125 : decode cX9_findRow 125 = .ok (.iconst 1, 1) := by decide +kernel
theorem dX9_findRow_126 : decode cX9_findRow 126 = .ok (.if_icmp .ne 6, 3) := by decide +kernel
theorem dX9_findRow_129 : decode cX9_findRow 129 = .ok (.goto 31, 3) := by decide +kernel
theorem dX9_findRow_132 : decode cX9_findRow 132 = .ok (.aload_n 0, 1) := by decide +kernel
theorem dX9_findRow_133 : decode cX9_findRow 133 = .ok (.iload_n 3, 1) := by decide +kernel
theorem dX9_findRow_134 : decode cX9_findRow 134 = .ok (.iload_n 1, 1) := by decide +kernel
theorem dX9_findRow_135 : decode cX9_findRow 135 = .ok (.invokevirtual 83, 3) := by decide +kernel
theorem dX9_findRow_138 : decode cX9_findRow 138 = .ok (.aload_n 0, 1) := by decide +kernel
theorem dX9_findRow_139 : decode cX9_findRow 139 = .ok (.getfield 32, 3) := by decide +kernel
theorem dX9_findRow_142 : decode cX9_findRow 142 = .ok (.iload_n 1, 1) := by decide +kernel
theorem dX9_findRow_143 : decode cX9_findRow 143 = .ok (.iconst 1, 1) := by decide +kernel
theorem dX9_findRow_144 : decode cX9_findRow 144 = .ok (.iload_n 3, 1) := by decide +kernel
theorem dX9_findRow_145 : decode cX9_findRow 145 = .ok (.ishl, 1) := by decide +kernel
theorem dX9_findRow_146 : decode cX9_findRow 146 = .ok (.ior, 1) := by decide +kernel
theorem dX9_findRow_147 : decode cX9_findRow 147 = .ok (.iaload, 1) := by decide +kernel
theorem dX9_findRow_148 : decode cX9_findRow 148 = .ok (.iadd, 1) := by decide +kernel
theorem dX9_findRow_149 : decode cX9_findRow 149 = .ok (.istore 4, 2) := by decide +kernel
theorem dX9_findRow_151 : decode cX9_findRow 151 = .ok (.iload 4, 2) := by decide +kernel
theorem dX9_findRow_153 : decode cX9_findRow 153 = .ok (.iload_n 2, 1) := by decide +kernel
theorem dX9_findRow_154 : decode cX9_findRow 154 = .ok (.if_icmp .ge 6, 3) := by decide +kernel
theorem dX9_findRow_157 : decode cX9_findRow 157 = .ok (.iload 4, 2) := by decide +kernel
theorem dX9_findRow_159 : decode cX9_findRow 159 = .ok (.istore_n 2, 1) := by decide +kernel
theorem dX9_findRow_160 : decode cX9_findRow 160 = .ok (.iinc 3 1, 3) := by decide +kernel
theorem dX9_findRow_163 : decode cX9_findRow 163 = .ok (.goto (-60), 3) := by decide +kernel
theorem dX9_findRow_166 : decode cX9_findRow 166 = .ok (.aload_n 0, 1) := by decide +kernel
theorem dX9_findRow_167 : decode cX9_findRow 167 = .ok (.getfield 32, 3) := by decide +kernel
theorem dX9_findRow_170 : decode cX9_findRow 170 = .ok (.iload_n 1, 1) := by decide +kernel
theorem dX9_findRow_171 : decode cX9_findRow 171 = .ok (.iload_n 2, 1) := by decide +kernel
theorem dX9_findRow_172 : decode cX9_findRow 172 = .ok (.iastore, 1) := by decide +kernel
theorem dX9_findRow_173 : decode cX9_findRow 173 = .ok (.iinc 1 (-1), 3) := by decide +kernel
theorem dX9_findRow_176 : decode cX9_findRow 176 = .ok (.goto (-108), 3) := by decide +kernel
theorem dX9_findRow_179 : decode cX9_findRow 179 = .ok (.aload_n 0, 1) := by decide +kernel
theorem dX9_findRow_180 : decode cX9_findRow 180 = .ok (.iconst 0, 1) := by decide +kernel
theorem dX9_findRow_181 : decode cX9_findRow 181 = .ok (.putfield 87, 3) := by decide +kernel
theorem dX9_findRow_184 : decode cX9_findRow 184 = .ok (.iconst 0, 1) := by decide +kernel
theorem dX9_findRow_185 : decode cX9_findRow 185 = .ok (.istore_n 1, 1) := by decide +kernel
theorem dX9_findRow_186 : decode cX9_findRow 186 = .ok (.iload_n 1, 1) := by decide +kernel
theorem dX9_findRow_187 : decode cX9_findRow 187 = .ok (.aload_n 0, 1) := by decide +kernel
theorem dX9_findRow_188 : decode cX9_findRow 188 = .ok (.getfield 79, 3) := by decide +kernel
theorem dX9_findRow_191 : decode cX9_findRow 191 = .ok (.if_icmp .eq 97, 3) := by decide +kernel
theorem dX9_findRow_194 : decode cX9_findRow 194 = .ok (.iconst 0, 1) := by decide +kernel
theorem dX9_findRow_195 : decode cX9_findRow 195 = .ok (.istore_n 2, 1) := by decide +kernel
theorem dX9_findRow_196 : decode cX9_findRow 196 = .ok (.aload_n 0, 1) := by decide +kernel
theorem dX9_findRow_197 : decode cX9_findRow 197 = .ok (.getfield 79, 3) := by decide +kernel
theorem dX9_findRow_200 : decode cX9_findRow 200 = .ok (.iload_n 2, 1) := by decide +kernel
theorem dX9_findRow_201 : decode cX9_findRow 201 = .ok (.ishr, 1) := by decide +kernel
theorem dX9_findRow_202 : decode cX9_findRow 202 = .ok (.iconst 1, 1) := by decide +kernel
theorem dX9_findRow_203 : decode cX9_findRow 203 = .ok (.iand, 1) := by decide +kernel
theorem dX9_findRow_204 : decode cX9_findRow 204 = .ok (.ifCond .eq 38, 3) := by decide +kernel
theorem dX9_findRow_207 : decode cX9_findRow 207 = .ok (.iload_n 1, 1) := by decide +kernel
theorem dX9_findRow_208 : decode cX9_findRow 208 = .ok (.iload_n 2, 1) := by decide +kernel
theorem dX9_findRow_209 : decode cX9_findRow 209 = .ok (.ishr, 1) := by decide +kernel
theorem dX9_findRow_210 : decode cX9_findRow 210 = .ok (.iconst 1, 1) := by decide +kernel
theorem dX9_findRow_211 : decode cX9_findRow 211 = .ok (.iand, 1) := by decide +kernel
theorem dX9_findRow_212 : decode cX9_findRow 212 = .ok (.iconst 1, 1) := by decide +kernel
theorem dX9_findRow_213 : decode cX9_findRow 213 = .ok (.if_icmp .eq 29, 3) := by decide +kernel
theorem dX9_findRow_216 : decode cX9_findRow 216 = .ok (.aload_n 0, 1) := by decide +kernel
theorem dX9_findRow_217 : decode cX9_findRow 217 = .ok (.iload_n 2, 1) := by decide +kernel
theorem dX9_findRow_218 : decode cX9_findRow 218 = .ok (.iload_n 1, 1) := by decide +kernel
theorem dX9_findRow_219 : decode cX9_findRow 219 = .ok (.invokevirtual 83, 3) := by decide +kernel
theorem dX9_findRow_222 : decode cX9_findRow 222 = .ok (.aload_n 0, 1) := by decide +kernel
theorem dX9_findRow_223 : decode cX9_findRow 223 = .ok (.getfield 32, 3) := by decide +kernel
theorem dX9_findRow_226 : decode cX9_findRow 226 = .ok (.iload_n 1, 1) := by decide +kernel
theorem dX9_findRow_227 : decode cX9_findRow 227 = .ok (.iconst 1, 1) := by decide +kernel
theorem dX9_findRow_228 : decode cX9_findRow 228 = .ok (.iload_n 2, 1) := by decide +kernel
theorem dX9_findRow_229 : decode cX9_findRow 229 = .ok (.ishl, 1) := by decide +kernel
theorem dX9_findRow_230 : decode cX9_findRow 230 = .ok (.ior, 1) := by decide +kernel
theorem dX9_findRow_231 : decode cX9_findRow 231 = .ok (.iaload, 1) := by decide +kernel
theorem dX9_findRow_232 : decode cX9_findRow 232 = .ok (.iadd, 1) := by decide +kernel
theorem dX9_findRow_233 : decode cX9_findRow 233 = .ok (.aload_n 0, 1) := by decide +kernel
theorem dX9_findRow_234 : decode cX9_findRow 234 = .ok (.getfield 32, 3) := by decide +kernel
theorem dX9_findRow_237 : decode cX9_findRow 237 = .ok (.iload_n 1, 1) := by decide +kernel
theorem dX9_findRow_238 : decode cX9_findRow 238 = .ok (.iaload, 1) := by decide +kernel
theorem dX9_findRow_239 : decode cX9_findRow 239 = .ok (.if_icmp .eq 10, 3) := by decide +kernel
theorem dX9_findRow_242 : decode cX9_findRow 242 = .ok (.iload_n 2, 1) := by decide +kernel
theorem dX9_findRow_243 : decode cX9_findRow 243 = .ok (.iconst 1, 1) := by decide +kernel
theorem dX9_findRow_244 : decode cX9_findRow 244 = .ok (.iadd, 1) := by decide +kernel
theorem dX9_findRow_245 : decode cX9_findRow 245 = .ok (.istore_n 2, 1) := by decide +kernel
theorem dX9_findRow_246 : decode cX9_findRow 246 = .ok (.goto (-50), 3) := by decide +kernel
theorem dX9_findRow_249 : decode cX9_findRow 249 = .ok (.aload_n 0, 1) := by decide +kernel
theorem dX9_findRow_250 : decode cX9_findRow 250 = .ok (.getfield 23, 3) := by decide +kernel
theorem dX9_findRow_253 : decode cX9_findRow 253 = .ok (.aload_n 0, 1) := by decide +kernel
theorem dX9_findRow_254 : decode cX9_findRow 254 = .ok (.getfield 87, 3) := by decide +kernel
theorem dX9_findRow_257 : decode cX9_findRow 257 = .ok (.iload_n 2, 1) := by decide +kernel
theorem dX9_findRow_258 : decode cX9_findRow 258 = .ok (.iastore, 1) := by decide +kernel
theorem dX9_findRow_259 : decode cX9_findRow 259 = .ok (.aload_n 0, 1) := by decide +kernel
theorem dX9_findRow_260 : decode cX9_findRow 260 = .ok (.getfield 26, 3) := by decide +kernel
theorem dX9_findRow_263 : decode cX9_findRow 263 = .ok (.iload_n 2, 1) := by decide +kernel
theorem dX9_findRow_264 : decode cX9_findRow 264 = .ok (.aload_n 0, 1) := by decide +kernel
theorem dX9_findRow_265 : decode cX9_findRow 265 = .ok (.getfield 87, 3) := by decide +kernel
theorem dX9_findRow_268 : decode cX9_findRow 268 = .ok (.iastore, 1) := by decide +kernel
theorem dX9_findRow_269 : decode cX9_findRow 269 = .ok (.aload_n 0, 1) := by decide +kernel
theorem dX9_findRow_270 : decode cX9_findRow 270 = .ok (.aload_n 0, 1) := by decide +kernel
theorem dX9_findRow_271 : decode cX9_findRow 271 = .ok (.getfield 87, 3) := by decide +kernel
theorem dX9_findRow_274 : decode cX9_findRow 274 = .ok (.iconst 1, 1) := by decide +kernel
theorem dX9_findRow_275 : decode cX9_findRow 275 = .ok (.iadd, 1) := by decide +kernel
theorem dX9_findRow_276 : decode cX9_findRow 276 = .ok (.putfield 87, 3) := by decide +kernel
theorem dX9_findRow_279 : decode cX9_findRow 279 = .ok (.iload_n 1, 1) := by decide +kernel
theorem dX9_findRow_280 : decode cX9_findRow 280 = .ok (.iconst 1, 1) := by decide +kernel
theorem dX9_findRow_281 : decode cX9_findRow 281 = .ok (.iload_n 2, 1) := by decide +kernel
theorem dX9_findRow_282 : decode cX9_findRow 282 = .ok (.ishl, 1) := by decide +kernel
theorem dX9_findRow_283 : decode cX9_findRow 283 = .ok (.ior, 1) := by decide +kernel
theorem dX9_findRow_284 : decode cX9_findRow 284 = .ok (.istore_n 1, 1) := by decide +kernel
theorem dX9_findRow_285 : decode cX9_findRow 285 = .ok (.goto (-99), 3) := by decide +kernel
theorem dX9_findRow_288 : decode cX9_findRow 288 = .ok (.aload_n 0, 1) := by decide +kernel
theorem dX9_findRow_289 : decode cX9_findRow 289 = .ok (.iconst 0, 1) := by decide +kernel
theorem dX9_findRow_290 : decode cX9_findRow 290 = .ok (.putfield 90, 3) := by decide +kernel
theorem dX9_findRow_293 : decode cX9_findRow 293 = .ok (.iconst 0, 1) := by decide +kernel
theorem dX9_findRow_294 : decode cX9_findRow 294 = .ok (.istore_n 2, 1) := by decide +kernel
theorem dX9_findRow_295 : decode cX9_findRow 295 = .ok (.iload_n 2, 1) := by decide +kernel
theorem dX9_findRow_296 : decode cX9_findRow 296 = .ok (.aload_n 0, 1) := by decide +kernel
theorem dX9_findRow_297 : decode cX9_findRow 297 = .ok (.getfield 87, 3) := by decide +kernel
theorem dX9_findRow_300 : decode cX9_findRow 300 = .ok (.if_icmp .ge 124, 3) := by decide +kernel
theorem dX9_findRow_303 : decode cX9_findRow 303 = .ok (.aload_n 0, 1) := by decide +kernel
theorem dX9_findRow_304 : decode cX9_findRow 304 = .ok (.getfield 23, 3) := by decide +kernel
theorem dX9_findRow_307 : decode cX9_findRow 307 = .ok (.iload_n 2, 1) := by decide +kernel
theorem dX9_findRow_308 : decode cX9_findRow 308 = .ok (.iaload, 1) := by decide +kernel
theorem dX9_findRow_309 : decode cX9_findRow 309 = .ok (.istore_n 3, 1) := by decide +kernel
theorem dX9_findRow_310 : decode cX9_findRow 310 = .ok (.aload_n 0, 1) := by decide +kernel
theorem dX9_findRow_311 : decode cX9_findRow 311 = .ok (.getfield 29, 3) := by decide +kernel
theorem dX9_findRow_314 : decode cX9_findRow 314 = .ok (.iload_n 3, 1) := by decide +kernel
theorem dX9_findRow_315 : decode cX9_findRow 315 = .ok (.iconst 0, 1) := by decide +kernel
theorem dX9_findRow_316 : decode cX9_findRow 316 = .ok (.iastore, 1) := by decide +kernel
theorem dX9_findRow_317 : decode cX9_findRow 317 = .ok (.iconst 0, 1) := by decide +kernel
theorem dX9_findRow_318 : decode cX9_findRow 318 = .ok (.istore 4, 2) := by decide +kernel
theorem dX9_findRow_320 : decode cX9_findRow 320 = .ok (.iload 4, 2) := by decide +kernel
theorem dX9_findRow_322 : decode cX9_findRow 322 = .ok (.iload_n 2, 1) := by decide +kernel
theorem dX9_findRow_323 : decode cX9_findRow 323 = .ok (.if_icmp .ge 70, 3) := by decide +kernel
theorem dX9_findRow_326 : decode cX9_findRow 326 = .ok (.aload_n 0, 1) := by decide +kernel
theorem dX9_findRow_327 : decode cX9_findRow 327 = .ok (.getfield 7, 3) := by decide +kernel
theorem dX9_findRow_330 : decode cX9_findRow 330 = .ok (.bipush 10, 2) := by decide +kernel
theorem dX9_findRow_332 : decode cX9_findRow 332 = .ok (.aload_n 0, 1) := by decide +kernel
theorem dX9_findRow_333 : decode cX9_findRow 333 = .ok (.getfield 23, 3) := by decide +kernel
theorem dX9_findRow_336 : decode cX9_findRow 336 = .ok (.iload 4, 2) := by decide +kernel
theorem dX9_findRow_338 : decode cX9_findRow 338 = .ok (.iaload, 1) := by decide +kernel
theorem dX9_findRow_339 : decode cX9_findRow 339 = .ok (.imul, 1) := by decide +kernel
theorem dX9_findRow_340 : decode cX9_findRow 340 = .ok (.iload_n 3, 1) := by decide +kernel
theorem dX9_findRow_341 : decode cX9_findRow 341 = .ok (.iadd, 1) := by decide +kernel
theorem dX9_findRow_342 : decode cX9_findRow 342 = .ok (.iaload, 1) := by decide +kernel
theorem dX9_findRow_343 : decode cX9_findRow 343 = .ok (.ifCond .le 44, 3) := by decide +kernel
theorem dX9_findRow_346 : decode cX9_findRow 346 = .ok (.aload_n 0, 1) := by decide +kernel
theorem dX9_findRow_347 : decode cX9_findRow 347 = .ok (.getfield 29, 3) := by decide +kernel
theorem dX9_findRow_350 : decode cX9_findRow 350 = .ok (.aload_n 0, 1) := by decide +kernel
theorem dX9_findRow_351 : decode cX9_findRow 351 = .ok (.getfield 23, 3) := by decide +kernel
theorem dX9_findRow_354 : decode cX9_findRow 354 = .ok (.iload 4, 2) := by decide +kernel
theorem dX9_findRow_356 : decode cX9_findRow 356 = .ok (.iaload, 1) := by decide +kernel
theorem dX9_findRow_357 : decode cX9_findRow 357 = .ok (.iaload, 1) := by decide +kernel
theorem dX9_findRow_358 : decode cX9_findRow 358 = .ok (.aload_n 0, 1) := by decide +kernel
theorem dX9_findRow_359 : decode cX9_findRow 359 = .ok (.getfield 29, 3) := by decide +kernel
theorem dX9_findRow_362 : decode cX9_findRow 362 = .ok (.iload_n 3, 1) := by decide +kernel
theorem dX9_findRow_363 : decode cX9_findRow 363 = .ok (.iaload, 1) := by decide +kernel
theorem dX9_findRow_364 : decode cX9_findRow 364 = .ok (.if_icmp .lt 23, 3) := by decide +kernel
theorem dX9_findRow_367 : decode cX9_findRow 367 = .ok (.aload_n 0, 1) := by decide +kernel
theorem dX9_findRow_368 : decode cX9_findRow 368 = .ok (.getfield 29, 3) := by decide +kernel
theorem dX9_findRow_371 : decode cX9_findRow 371 = .ok (.iload_n 3, 1) := by decide +kernel
theorem dX9_findRow_372 : decode cX9_findRow 372 = .ok (.aload_n 0, 1) := by decide +kernel
theorem dX9_findRow_373 : decode cX9_findRow 373 = .ok (.getfield 29, 3) := by decide +kernel
theorem dX9_findRow_376 : decode cX9_findRow 376 = .ok (.aload_n 0, 1) := by decide +kernel
theorem dX9_findRow_377 : decode cX9_findRow 377 = .ok (.getfield 23, 3) := by decide +kernel
theorem dX9_findRow_380 : decode cX9_findRow 380 = .ok (.iload 4, 2) := by decide +kernel
theorem dX9_findRow_382 : decode cX9_findRow 382 = .ok (.iaload, 1) := by decide +kernel
theorem dX9_findRow_383 : decode cX9_findRow 383 = .ok (.iaload, 1) := by decide +kernel
theorem dX9_findRow_384 : decode cX9_findRow 384 = .ok (.iconst 1, 1) := by decide +kernel
theorem dX9_findRow_385 : decode cX9_findRow 385 = .ok (.iadd, 1) := by decide +kernel
theorem dX9_findRow_386 : decode cX9_findRow 386 = .ok (.iastore, 1) := by decide +kernel
theorem dX9_findRow_387 : decode cX9_findRow 387 = .ok (.iinc 4 1, 3) := by decide +kernel
theorem dX9_findRow_390 : decode cX9_findRow 390 = .ok (.goto (-70), 3) := by decide +kernel
theorem dX9_findRow_393 : decode cX9_findRow 393 = .ok (.aload_n 0, 1) := by decide +kernel
theorem dX9_findRow_394 : decode cX9_findRow 394 = .ok (.getfield 29, 3) := by decide +kernel
theorem dX9_findRow_397 : decode cX9_findRow 397 = .ok (.iload_n 3, 1) := by decide +kernel
theorem dX9_findRow_398 : decode cX9_findRow 398 = .ok (.iaload, 1) := by decide +kernel
theorem dX9_findRow_399 : decode cX9_findRow 399 = .ok (.aload_n 0, 1) := by decide +kernel
theorem dX9_findRow_400 : decode cX9_findRow 400 = .ok (.getfield 90, 3) := by decide +kernel
theorem dX9_findRow_403 : decode cX9_findRow 403 = .ok (.if_icmp .lt 15, 3) := by decide +kernel
theorem dX9_findRow_406 : decode cX9_findRow 406 = .ok (.aload_n 0, 1) := by decide +kernel
theorem dX9_findRow_407 : decode cX9_findRow 407 = .ok (.aload_n 0, 1) := by decide +kernel
theorem dX9_findRow_408 : decode cX9_findRow 408 = .ok (.getfield 29, 3) := by decide +kernel
theorem dX9_findRow_411 : decode cX9_findRow 411 = .ok (.iload_n 3, 1) := by decide +kernel
theorem dX9_findRow_412 : decode cX9_findRow 412 = .ok (.iaload, 1) := by decide +kernel
theorem dX9_findRow_413 : decode cX9_findRow 413 = .ok (.iconst 1, 1) := by decide +kernel
theorem dX9_findRow_414 : decode cX9_findRow 414 = .ok (.iadd, 1) := by decide +kernel
theorem dX9_findRow_415 : decode cX9_findRow 415 = .ok (.putfield 90, 3) := by decide +kernel
theorem dX9_findRow_418 : decode cX9_findRow 418 = .ok (.iinc 2 1, 3) := by decide +kernel
theorem dX9_findRow_421 : decode cX9_findRow 421 = .ok (.goto (-126), 3) := by decide +kernel
theorem dX9_findRow_424 : decode cX9_findRow 424 = .ok (.return_, 1) := by decide +kernel
theorem dX9_isUsed_0 : decode cX9_isUsed 0 = .ok (.aload_n 0, 1) := by decide +kernel
theorem dX9_isUsed_1 : decode cX9_isUsed 1 = .ok (.getfield 79, 3) := by decide +kernel
theorem dX9_isUsed_4 : decode cX9_isUsed 4 = .ok (.iload_n 1, 1) := by decide +kernel
theorem dX9_isUsed_5 : decode cX9_isUsed 5 = .ok (.ishr, 1) := by decide +kernel
theorem dX9_isUsed_6 : decode cX9_isUsed 6 = .ok (.iconst 1, 1) := by decide +kernel
theorem dX9_isUsed_7 : decode cX9_isUsed 7 = .ok (.iand, 1) := by decide +kernel
theorem dX9_isUsed_8 : decode cX9_isUsed 8 = .ok (.iconst 1, 1) := by decide +kernel
theorem dX9_isUsed_9 : decode cX9_isUsed 9 = .ok (.if_icmp .ne 7, 3) := by decide +kernel
theorem dX9_isUsed_12 : decode cX9_isUsed 12 = .ok (.iconst 1, 1) := by decide +kernel
theorem dX9_isUsed_13 : decode cX9_isUsed 13 = .ok (.goto 4, 3) := by decide +kernel
theorem dX9_isUsed_16 : decode cX9_isUsed 16 = .ok (.iconst 0, 1) := by decide +kernel
theorem dX9_isUsed_17 : decode cX9_isUsed 17 = .ok (.ireturn, 1) := by decide +kernel
theorem dX9_isTurned_0 : decode cX9_isTurned 0 = .ok (.aload_n 0, 1) := by decide +kernel
theorem dX9_isTurned_1 : decode cX9_isTurned 1 = .ok (.getfield 26, 3) := by decide +kernel
theorem dX9_isTurned_4 : decode cX9_isTurned 4 = .ok (.iload_n 1, 1) := by decide +kernel
theorem dX9_isTurned_5 : decode cX9_isTurned 5 = .ok (.iaload, 1) := by decide +kernel
theorem dX9_isTurned_6 : decode cX9_isTurned 6 = .ok (.aload_n 0, 1) := by decide +kernel
theorem dX9_isTurned_7 : decode cX9_isTurned 7 = .ok (.getfield 26, 3) := by decide +kernel
theorem dX9_isTurned_10 : decode cX9_isTurned 10 = .ok (.iload_n 2, 1) := by decide +kernel
theorem dX9_isTurned_11 : decode cX9_isTurned 11 = .ok (.iaload, 1) := by decide +kernel
theorem dX9_isTurned_12 : decode cX9_isTurned 12 = .ok (.if_icmp .le 7, 3) := by decide +kernel
theorem dX9_isTurned_15 : decode cX9_isTurned 15 = .ok (.iconst 1, 1) := by decide +kernel
theorem dX9_isTurned_16 : decode cX9_isTurned 16 = .ok (.goto 4, 3) := by decide +kernel
theorem dX9_isTurned_19 : decode cX9_isTurned 19 = .ok (.iconst 0, 1) := by decide +kernel
theorem dX9_isTurned_20 : decode cX9_isTurned 20 = .ok (.ireturn, 1) := by decide +kernel
theorem dX9_puts_0 : decode cX9_puts 0 = .ok (.aload_n 0, 1) := by decide +kernel
theorem dX9_puts_1 : decode cX9_puts 1 = .ok (.getfield 35, 3) := by decide +kernel
theorem dX9_puts_4 : decode cX9_puts 4 = .ok (.iload_n 1, 1) := by decide +kernel
theorem dX9_puts_5 : decode cX9_puts 5 = .ok (.iaload, 1) := by decide +kernel
theorem dX9_puts_6 : decode cX9_puts 6 = .ok (.istore_n 3, 1) := by decide +kernel
theorem dX9_puts_7 : decode cX9_puts 7 = .ok (.iload_n 3, 1) := by decide +kernel
theorem dX9_puts_8 : decode cX9_puts 8 = .ok (.ifCond .le 51, 3) := by decide +kernel
theorem dX9_puts_11 : decode cX9_puts 11 = .ok (.aload_n 0, 1) := by decide +kernel
theorem dX9_puts_12 : decode cX9_puts 12 = .ok (.getfield 38, 3) := by decide +kernel
theorem dX9_puts_15 : decode cX9_puts 15 = .ok (.bipush 30, 2) := by decide +kernel
theorem dX9_puts_17 : decode cX9_puts 17 = .ok (.iload_n 1, 1) := by decide +kernel
theorem dX9_puts_18 : decode cX9_puts 18 = .ok (.imul, 1) := by decide +kernel
theorem dX9_puts_19 : decode cX9_puts 19 = .ok (.iload_n 3, 1) := by decide +kernel
theorem dX9_puts_20 : decode cX9_puts 20 = .ok (.iadd, 1) := by decide +kernel
theorem dX9_puts_21 : decode cX9_puts 21 = .ok (.iconst 1, 1) := by decide +kernel
theorem dX9_puts_22 : decode cX9_puts 22 = .ok (.isub, 1) := by decide +kernel
theorem dX9_puts_23 : decode cX9_puts 23 = .ok (.iaload, 1) := by decide +kernel
theorem dX9_puts_24 : decode cX9_puts 24 = .ok (.iload_n 2, 1) := by decide +kernel
theorem dX9_puts_25 : decode cX9_puts 25 = .ok (.if_icmp .le 34, 3) := by decide +kernel
theorem dX9_puts_28 : decode cX9_puts 28 = .ok (.aload_n 0, 1) := by decide +kernel
theorem dX9_puts_29 : decode cX9_puts 29 = .ok (.getfield 38, 3) := by decide +kernel
theorem dX9_puts_32 : decode cX9_puts 32 = .ok (.bipush 30, 2) := by decide +kernel
theorem dX9_puts_34 : decode cX9_puts 34 = .ok (.iload_n 1, 1) := by decide +kernel
theorem dX9_puts_35 : decode cX9_puts 35 = .ok (.imul, 1) := by decide +kernel
theorem dX9_puts_36 : decode cX9_puts 36 = .ok (.iload_n 3, 1) := by decide +kernel
theorem dX9_puts_37 : decode cX9_puts 37 = .ok (.iadd, 1) := by decide +kernel
theorem dX9_puts_38 : decode cX9_puts 38 = .ok (.aload_n 0, 1) := by decide +kernel
theorem dX9_puts_39 : decode cX9_puts 39 = .ok (.getfield 38, 3) := by decide +kernel
theorem dX9_puts_42 : decode cX9_puts 42 = .ok (.bipush 30, 2) := by decide +kernel
theorem dX9_puts_44 : decode cX9_puts 44 = .ok (.iload_n 1, 1) := by decide +kernel
theorem dX9_puts_45 : decode cX9_puts 45 = .ok (.imul, 1) := by decide +kernel
theorem dX9_puts_46 : decode cX9_puts 46 = .ok (.iload_n 3, 1) := by decide +kernel
theorem dX9_puts_47 : decode cX9_puts 47 = .ok (.iadd, 1) := by decide +kernel
theorem dX9_puts_48 : decode cX9_puts 48 = .ok (.iconst 1, 1) := by decide +kernel
theorem dX9_puts_49 : decode cX9_puts 49 = .ok (.isub, 1) := by decide +kernel
theorem dX9_puts_50 : decode cX9_puts 50 = .ok (.iaload, 1) := by decide +kernel
theorem dX9_puts_51 : decode cX9_puts 51 = .ok (.iastore, 1) := by decide +kernel
theorem dX9_puts_52 : decode cX9_puts 52 = .ok (.iload_n 3, 1) := by decide +kernel
theorem dX9_puts_53 : decode cX9_puts 53 = .ok (.iconst 1, 1) := by decide +kernel
theorem dX9_puts_54 : decode cX9_puts 54 = .ok (.isub, 1) := by decide +kernel
theorem dX9_puts_55 : decode cX9_puts 55 = .ok (.istore_n 3, 1) := by decide +kernel
theorem dX9_puts_56 : decode cX9_puts 56 = .ok (.goto (-49), 3) := by decide +kernel
theorem dX9_puts_59 : decode cX9_puts 59 = .ok (.aload_n 0, 1) := by decide +kernel
theorem dX9_puts_60 : decode cX9_puts 60 = .ok (.getfield 38, 3) := by decide +kernel
theorem dX9_puts_63 : decode cX9_puts 63 = .ok (.bipush 30, 2) := by decide +kernel
theorem dX9_puts_65 : decode cX9_puts 65 = .ok (.iload_n 1, 1) := by decide +kernel
theorem dX9_puts_66 : decode cX9_puts 66 = .ok (.imul, 1) := by decide +kernel
theorem dX9_puts_67 : decode cX9_puts 67 = .ok (.iload_n 3, 1) := by decide +kernel
theorem dX9_puts_68 : decode cX9_puts 68 = .ok (.iadd, 1) := by decide +kernel
theorem dX9_puts_69 : decode cX9_puts 69 = .ok (.iload_n 2, 1) := by decide +kernel
theorem dX9_puts_70 : decode cX9_puts 70 = .ok (.iastore, 1) := by decide +kernel
theorem dX9_puts_71 : decode cX9_puts 71 = .ok (.aload_n 0, 1) := by decide +kernel
theorem dX9_puts_72 : decode cX9_puts 72 = .ok (.getfield 35, 3) := by decide +kernel
theorem dX9_puts_75 : decode cX9_puts 75 = .ok (.iload_n 1, 1) := by decide +kernel
theorem dX9_puts_76 : decode cX9_puts 76 = .ok (.aload_n 0, 1) := by decide +kernel
theorem dX9_puts_77 : decode cX9_puts 77 = .ok (.getfield 35, 3) := by decide +kernel
theorem dX9_puts_80 : decode cX9_puts 80 = .ok (.iload_n 1, 1) := by decide +kernel
theorem dX9_puts_81 : decode cX9_puts 81 = .ok (.iaload, 1) := by decide +kernel
theorem dX9_puts_82 : decode cX9_puts 82 = .ok (.iconst 1, 1) := by decide +kernel
theorem dX9_puts_83 : decode cX9_puts 83 = .ok (.iadd, 1) := by decide +kernel
theorem dX9_puts_84 : decode cX9_puts 84 = .ok (.iastore, 1) := by decide +kernel
theorem dX9_puts_85 : decode cX9_puts 85 = .ok (.return_, 1) := by decide +kernel
theorem dX9_find_0 : decode cX9_find 0 = .ok (.iconst 0, 1) := by decide +kernel
theorem dX9_find_1 : decode cX9_find 1 = .ok (.istore_n 3, 1) := by decide +kernel
theorem dX9_find_2 : decode cX9_find 2 = .ok (.aload_n 0, 1) := by decide +kernel
theorem dX9_find_3 : decode cX9_find 3 = .ok (.getfield 38, 3) := by decide +kernel
theorem dX9_find_6 : decode cX9_find 6 = .ok (.bipush 30, 2) := by decide +kernel
theorem dX9_find_8 : decode cX9_find 8 = .ok (.iload_n 1, 1) := by decide +kernel
theorem dX9_find_9 : decode cX9_find 9 = .ok (.imul, 1) := by decide +kernel
theorem dX9_find_10 : decode cX9_find 10 = .ok (.iload_n 3, 1) := by decide +kernel
theorem dX9_find_11 : decode cX9_find 11 = .ok (.iadd, 1) := by decide +kernel
theorem dX9_find_12 : decode cX9_find 12 = .ok (.iaload, 1) := by decide +kernel
theorem dX9_find_13 : decode cX9_find 13 = .ok (.iload_n 2, 1) := by decide +kernel
theorem dX9_find_14 : decode cX9_find 14 = .ok (.if_icmp .eq 10, 3) := by decide +kernel
theorem dX9_find_17 : decode cX9_find 17 = .ok (.iload_n 3, 1) := by decide +kernel
theorem dX9_find_18 : decode cX9_find 18 = .ok (.iconst 1, 1) := by decide +kernel
theorem dX9_find_19 : decode cX9_find 19 = .ok (.iadd, 1) := by decide +kernel
theorem dX9_find_20 : decode cX9_find 20 = .ok (.istore_n 3, 1) := by decide +kernel
theorem dX9_find_21 : decode cX9_find 21 = .ok (.goto (-19), 3) := by decide +kernel
theorem dX9_find_24 : decode cX9_find 24 = .ok (.iload_n 3, 1) := by decide +kernel
theorem dX9_find_25 : decode cX9_find 25 = .ok (.ireturn, 1) := by decide +kernel
theorem dX9_idOf_0 : decode cX9_idOf 0 = .ok (.iload_n 3, 1) := by decide +kernel
theorem dX9_idOf_1 : decode cX9_idOf 1 = .ok (.aload_n 0, 1) := by decide +kernel
theorem dX9_idOf_2 : decode cX9_idOf 2 = .ok (.getfield 29, 3) := by decide +kernel
theorem dX9_idOf_5 : decode cX9_idOf 5 = .ok (.iload_n 1, 1) := by decide +kernel
theorem dX9_idOf_6 : decode cX9_idOf 6 = .ok (.iaload, 1) := by decide +kernel
theorem dX9_idOf_7 : decode cX9_idOf 7 = .ok (.if_icmp .ne 7, 3) := by decide +kernel
theorem dX9_idOf_10 : decode cX9_idOf 10 = .ok (.iload_n 1, 1) := by decide +kernel
theorem dX9_idOf_11 : decode cX9_idOf 11 = .ok (.goto 26, 3) := by decide +kernel
theorem dX9_idOf_14 : decode cX9_idOf 14 = .ok (.iload_n 3, 1) := by decide +kernel
theorem dX9_idOf_15 : decode cX9_idOf 15 = .ok (.aload_n 0, 1) := by decide +kernel
theorem dX9_idOf_16 : decode cX9_idOf 16 = .ok (.getfield 29, 3) := by decide +kernel
theorem dX9_idOf_19 : decode cX9_idOf 19 = .ok (.iload_n 2, 1) := by decide +kernel
theorem dX9_idOf_20 : decode cX9_idOf 20 = .ok (.iaload, 1) := by decide +kernel
theorem dX9_idOf_21 : decode cX9_idOf 21 = .ok (.if_icmp .ne 7, 3) := by decide +kernel
theorem dX9_idOf_24 : decode cX9_idOf 24 = .ok (.iload_n 2, 1) := by decide +kernel
theorem dX9_idOf_25 : decode cX9_idOf 25 = .ok (.goto 12, 3) := by decide +kernel
theorem dX9_idOf_28 : decode cX9_idOf 28 = .ok (.bipush 100, 2) := by decide +kernel
theorem dX9_idOf_30 : decode cX9_idOf 30 = .ok (.bipush 10, 2) := by decide +kernel
theorem dX9_idOf_32 : decode cX9_idOf 32 = .ok (.iload_n 1, 1) := by decide +kernel
theorem dX9_idOf_33 : decode cX9_idOf 33 = .ok (.imul, 1) := by decide +kernel
theorem dX9_idOf_34 : decode cX9_idOf 34 = .ok (.iadd, 1) := by decide +kernel
theorem dX9_idOf_35 : decode cX9_idOf 35 = .ok (.iload_n 2, 1) := by decide +kernel
theorem dX9_idOf_36 : decode cX9_idOf 36 = .ok (.iadd, 1) := by decide +kernel
theorem dX9_idOf_37 : decode cX9_idOf 37 = .ok (.ireturn, 1) := by decide +kernel
theorem dX9_isStraight_0 : decode cX9_isStraight 0 = .ok (.aload_n 0, 1) := by decide +kernel
theorem dX9_isStraight_1 : decode cX9_isStraight 1 = .ok (.getfield 7, 3) := by decide +kernel
theorem dX9_isStraight_4 : decode cX9_isStraight 4 = .ok (.bipush 10, 2) := by decide +kernel
theorem dX9_isStraight_6 : decode cX9_isStraight 6 = .ok (.iload_n 1, 1) := by decide +kernel
theorem dX9_isStraight_7 : decode cX9_isStraight 7 = .ok (.imul, 1) := by decide +kernel
theorem dX9_isStraight_8 : decode cX9_isStraight 8 = .ok (.iload_n 2, 1) := by decide +kernel
theorem dX9_isStraight_9 : decode cX9_isStraight 9 = .ok (.iadd, 1) := by decide +kernel
theorem dX9_isStraight_10 : decode cX9_isStraight 10 = .ok (.iaload, 1) := by decide +kernel
theorem dX9_isStraight_11 : decode cX9_isStraight 11 = .ok (.ifCond .le 16, 3) := by decide +kernel
theorem dX9_isStraight_14 : decode cX9_isStraight 14 = .ok (.aload_n 0, 1) := by decide +kernel
theorem dX9_isStraight_15 : decode cX9_isStraight 15 = .ok (.iload_n 1, 1) := by decide +kernel
theorem dX9_isStraight_16 : decode cX9_isStraight 16 = .ok (.iload_n 2, 1) := by decide +kernel
theorem dX9_isStraight_17 : decode cX9_isStraight 17 = .ok (.invokevirtual 93, 3) := by decide +kernel
theorem dX9_isStraight_20 : decode cX9_isStraight 20 = .ok (.ifCond .ne 7, 3) := by decide +kernel
theorem dX9_isStraight_23 : decode cX9_isStraight 23 = .ok (.iconst 1, 1) := by decide +kernel
theorem dX9_isStraight_24 : decode cX9_isStraight 24 = .ok (.goto 4, 3) := by decide +kernel
theorem dX9_isStraight_27 : decode cX9_isStraight 27 = .ok (.iconst 0, 1) := by decide +kernel
theorem dX9_isStraight_28 : decode cX9_isStraight 28 = .ok (.ireturn, 1) := by decide +kernel
theorem dX9_findItems_0 : decode cX9_findItems 0 = .ok (.aload_n 0, 1) := by decide +kernel
theorem dX9_findItems_1 : decode cX9_findItems 1 = .ok (.invokevirtual 97, 3) := by decide +kernel
theorem dX9_findItems_4 : decode cX9_findItems 4 = .ok (.iconst 0, 1) := by decide +kernel
theorem dX9_findItems_5 : decode cX9_findItems 5 = .ok (.istore_n 1, 1) := by decide +kernel
theorem dX9_findItems_6 : decode cX9_findItems 6 = .ok (.iload_n 1, 1) := by decide +kernel
theorem dX9_findItems_7 : decode cX9_findItems 7 = .ok (.bipush 10, 2) := by decide +kernel
theorem dX9_findItems_9 : decode cX9_findItems 9 = .ok (.if_icmp .ge 23, 3) := by decide +kernel
theorem dX9_findItems_12 : decode cX9_findItems 12 = .ok (.aload_n 0, 1) := by decide +kernel
theorem dX9_findItems_13 : decode cX9_findItems 13 = .ok (.getfield 35, 3) := by decide +kernel
theorem dX9_findItems_16 : decode cX9_findItems 16 = .ok (.iload_n 1, 1) := by decide +kernel
theorem dX9_findItems_17 : decode cX9_findItems 17 = .ok (.iconst 0, 1) := by decide +kernel
theorem dX9_findItems_18 : decode cX9_findItems 18 = .ok (.iastore, 1) := by decide +kernel
theorem dX9_findItems_19 : decode cX9_findItems 19 = .ok (.aload_n 0, 1) := by decide +kernel
theorem dX9_findItems_20 : decode cX9_findItems 20 = .ok (.getfield 41, 3) := by decide +kernel
theorem dX9_findItems_23 : decode cX9_findItems 23 = .ok (.iload_n 1, 1) := by decide +kernel
theorem dX9_findItems_24 : decode cX9_findItems 24 = .ok (.iconst 0, 1) := by decide +kernel
theorem dX9_findItems_25 : decode cX9_findItems 25 = .ok (.iastore, 1) := by decide +kernel
theorem dX9_findItems_26 : decode cX9_findItems 26 = .ok (.iinc 1 1, 3) := by decide +kernel
theorem dX9_findItems_29 : decode cX9_findItems 29 = .ok (.goto (-23), 3) := by decide +kernel
theorem dX9_findItems_32 : decode cX9_findItems 32 = .ok (.iconst 0, 1) := by decide +kernel
theorem dX9_findItems_33 : decode cX9_findItems 33 = .ok (.istore_n 1, 1) := by decide +kernel
theorem dX9_findItems_34 : decode cX9_findItems 34 = .ok (.iload_n 1, 1) := by decide +kernel
theorem dX9_findItems_35 : decode cX9_findItems 35 = .ok (.bipush 10, 2) := by decide +kernel
theorem dX9_findItems_37 : decode cX9_findItems 37 = .ok (.if_icmp .ge 28, 3) := by decide +kernel
theorem dX9_findItems_40 : decode cX9_findItems 40 = .ok (.aload_n 0, 1) := by decide +kernel
theorem dX9_findItems_41 : decode cX9_findItems 41 = .ok (.iload_n 1, 1) := by decide +kernel
theorem dX9_findItems_42 : decode cX9_findItems 42 = .ok (.invokevirtual 100, 3) := by decide +kernel
theorem dX9_findItems_45 : decode cX9_findItems 45 = .ok (.ifCond .eq 14, 3) := by decide +kernel
theorem dX9_findItems_48 : decode cX9_findItems 48 = .ok (.aload_n 0, 1) := by decide +kernel
theorem dX9_findItems_49 : decode cX9_findItems 49 = .ok (.aload_n 0, 1) := by decide +kernel
theorem dX9_findItems_50 : decode cX9_findItems 50 = .ok (.getfield 29, 3) := by decide +kernel
theorem dX9_findItems_53 : decode cX9_findItems 53 = .ok (.iload_n 1, 1) := by decide +kernel
theorem dX9_findItems_54 : decode cX9_findItems 54 = .ok (.iaload, 1) := by decide +kernel
theorem dX9_findItems_55 : decode cX9_findItems 55 = .ok (.iload_n 1, 1) := by decide +kernel
theorem dX9_findItems_56 : decode cX9_findItems 56 = .ok (.invokevirtual 103, 3) := by decide +kernel
theorem dX9_findItems_59 : decode cX9_findItems 59 = .ok (.iinc 1 1, 3) := by decide +kernel
theorem dX9_findItems_62 : decode cX9_findItems 62 = .ok (.goto (-28), 3) := by decide +kernel
theorem dX9_findItems_65 : decode cX9_findItems 65 = .ok (.iconst 0, 1) := by decide +kernel
theorem dX9_findItems_66 : decode cX9_findItems 66 = .ok (.istore_n 1, 1) := by decide +kernel
theorem dX9_findItems_67 : decode cX9_findItems 67 = .ok (.iload_n 1, 1) := by decide +kernel
theorem dX9_findItems_68 : decode cX9_findItems 68 = .ok (.bipush 10, 2) := by decide +kernel
theorem dX9_findItems_70 : decode cX9_findItems 70 = .ok (.if_icmp .ge 71, 3) := by decide +kernel
theorem dX9_findItems_73 : decode cX9_findItems 73 = .ok (.iconst 0, 1) := by decide +kernel
theorem dX9_findItems_74 : decode cX9_findItems 74 = .ok (.istore_n 2, 1) := by decide +kernel
theorem dX9_findItems_75 : decode cX9_findItems 75 = .ok (.iload_n 2, 1) := by decide +kernel
theorem dX9_findItems_76 : decode cX9_findItems 76 = .ok (.bipush 10, 2) := by decide +kernel
theorem dX9_findItems_78 : decode cX9_findItems 78 = .ok (.if_icmp .ge 57, 3) := by decide +kernel
theorem dX9_findItems_81 : decode cX9_findItems 81 = .ok (.aload_n 0, 1) := by decide +kernel
theorem dX9_findItems_82 : decode cX9_findItems 82 = .ok (.iload_n 1, 1) := by decide +kernel
theorem dX9_findItems_83 : decode cX9_findItems 83 = .ok (.iload_n 2, 1) := by decide +kernel
theorem dX9_findItems_84 : decode cX9_findItems 84 = .ok (.invokevirtual 107, 3) := by decide +kernel
theorem dX9_findItems_87 : decode cX9_findItems 87 = .ok (.ifCond .eq 42, 3) := by decide +kernel
theorem dX9_findItems_90 : decode cX9_findItems 90 = .ok (.aload_n 0, 1) := by decide +kernel
theorem dX9_findItems_91 : decode cX9_findItems 91 = .ok (.getfield 29, 3) := by decide +kernel
theorem dX9_findItems_94 : decode cX9_findItems 94 = .ok (.iload_n 1, 1) := by decide +kernel
theorem dX9_findItems_95 : decode cX9_findItems 95 = .ok (.iaload, 1) := by decide +kernel
theorem dX9_findItems_96 : decode cX9_findItems 96 = .ok (.iconst 1, 1) := by decide +kernel
theorem dX9_findItems_97 : decode cX9_findItems 97 = .ok (.iadd, 1) := by decide +kernel
theorem dX9_findItems_98 : decode cX9_findItems 98 = .ok (.istore_n 3, 1) := by decide +kernel
theorem dX9_findItems_99 : decode cX9_findItems 99 = .ok (.iload_n 3, 1) := by decide +kernel
theorem dX9_findItems_100 : decode cX9_findItems 100 = .ok (.aload_n 0, 1) := by decide +kernel
theorem dX9_findItems_101 : decode cX9_findItems 101 = .ok (.getfield 29, 3) := by decide +kernel
theorem dX9_findItems_104 : decode cX9_findItems 104 = .ok (.iload_n 2, 1) := by decide +kernel
theorem dX9_findItems_105 : decode cX9_findItems 105 = .ok (.iaload, 1) := by decide +kernel
theorem dX9_findItems_106 : decode cX9_findItems 106 = .ok (.if_icmp .ge 23, 3) := by decide +kernel
theorem dX9_findItems_109 : decode cX9_findItems 109 = .ok (.aload_n 0, 1) := by decide +kernel
theorem dX9_findItems_110 : decode cX9_findItems 110 = .ok (.iload_n 3, 1) := by decide +kernel
theorem dX9_findItems_111 : decode cX9_findItems 111 = .ok (.bipush 100, 2) := by decide +kernel
theorem dX9_findItems_113 : decode cX9_findItems 113 = .ok (.bipush 10, 2) := by decide +kernel
theorem dX9_findItems_115 : decode cX9_findItems 115 = .ok (.iload_n 1, 1) := by decide +kernel
theorem dX9_findItems_116 : decode cX9_findItems 116 = .ok (.imul, 1) := by decide +kernel
theorem dX9_findItems_117 : decode cX9_findItems 117 = .ok (.iadd, 1) := by decide +kernel
theorem dX9_findItems_118 : decode cX9_findItems 118 = .ok (.iload_n 2, 1) := by decide +kernel
theorem dX9_findItems_119 : decode cX9_findItems 119 = .ok (.iadd, 1) := by decide +kernel
theorem dX9_findItems_120 : decode cX9_findItems 120 = .ok (.invokevirtual 103, 3) := by decide +kernel
theorem dX9_findItems_123 : decode cX9_findItems 123 = .ok (.iinc 3 1, 3) := by decide +kernel
theorem dX9_findItems_126 : decode cX9_findItems 126 = .ok (.goto (-27), 3) := by decide +kernel
theorem dX9_findItems_129 : decode cX9_findItems 129 = .ok (.iinc 2 1, 3) := by decide +kernel
theorem dX9_findItems_132 : decode cX9_findItems 132 = .ok (.goto (-57), 3) := by decide +kernel
theorem dX9_findItems_135 : decode cX9_findItems 135 = .ok (.iinc 1 1, 3) := by decide +kernel
theorem dX9_findItems_138 : decode cX9_findItems 138 = .ok (.goto (-71), 3) := by decide +kernel
theorem dX9_findItems_141 : decode cX9_findItems 141 = .ok (.aload_n 0, 1) := by decide +kernel
theorem dX9_findItems_142 : decode cX9_findItems 142 = .ok (.iconst 1, 1) := by decide +kernel
theorem dX9_findItems_143 : decode cX9_findItems 143 = .ok (.putfield 110, 3) := by decide +kernel
theorem dX9_findItems_146 : decode cX9_findItems 146 = .ok (.iconst 0, 1) := by decide +kernel
theorem dX9_findItems_147 : decode cX9_findItems 147 = .ok (.istore_n 1, 1) := by decide +kernel
theorem dX9_findItems_148 : decode cX9_findItems 148 = .ok (.iload_n 1, 1) := by decide +kernel
theorem dX9_findItems_149 : decode cX9_findItems 149 = .ok (.aload_n 0, 1) := by decide +kernel
theorem dX9_findItems_150 : decode cX9_findItems 150 = .ok (.getfield 90, 3) := by decide +kernel
theorem dX9_findItems_153 : decode cX9_findItems 153 = .ok (.if_icmp .ge 24, 3) := by decide +kernel
theorem dX9_findItems_156 : decode cX9_findItems 156 = .ok (.aload_n 0, 1) := by decide +kernel
theorem dX9_findItems_157 : decode cX9_findItems 157 = .ok (.getfield 35, 3) := by decide +kernel
theorem dX9_findItems_160 : decode cX9_findItems 160 = .ok (.iload_n 1, 1) := by decide +kernel
theorem dX9_findItems_161 : decode cX9_findItems 161 = .ok (.iaload, 1) := by decide +kernel
theorem dX9_findItems_162 : decode cX9_findItems 162 = .ok (.iconst 5, 1) := by decide +kernel
theorem dX9_findItems_163 : decode cX9_findItems 163 = .ok (.if_icmp .le 8, 3) := by decide +kernel
theorem dX9_findItems_166 : decode cX9_findItems 166 = .ok (.aload_n 0, 1) := by decide +kernel
theorem dX9_findItems_167 : decode cX9_findItems 167 = .ok (.iconst 0, 1) := by decide +kernel
theorem dX9_findItems_168 : decode cX9_findItems 168 = .ok (.putfield 110, 3) := by decide +kernel
theorem dX9_findItems_171 : decode cX9_findItems 171 = .ok (.iinc 1 1, 3) := by decide +kernel
theorem dX9_findItems_174 : decode cX9_findItems 174 = .ok (.goto (-26), 3) := by decide +kernel
theorem dX9_findItems_177 : decode cX9_findItems 177 = .ok (.iconst 0, 1) := by decide +kernel
theorem dX9_findItems_178 : decode cX9_findItems 178 = .ok (.istore_n 1, 1) := by decide +kernel
theorem dX9_findItems_179 : decode cX9_findItems 179 = .ok (.iload_n 1, 1) := by decide +kernel
theorem dX9_findItems_180 : decode cX9_findItems 180 = .ok (.bipush 10, 2) := by decide +kernel
theorem dX9_findItems_182 : decode cX9_findItems 182 = .ok (.if_icmp .ge 145, 3) := by decide +kernel
theorem dX9_findItems_185 : decode cX9_findItems 185 = .ok (.iconst 0, 1) := by decide +kernel
theorem dX9_findItems_186 : decode cX9_findItems 186 = .ok (.istore_n 2, 1) := by decide +kernel
theorem dX9_findItems_187 : decode cX9_findItems 187 = .ok (.iload_n 2, 1) := by decide +kernel
theorem dX9_findItems_188 : decode cX9_findItems 188 = .ok (.bipush 10, 2) := by decide +kernel
theorem dX9_findItems_190 : decode cX9_findItems 190 = .ok (.if_icmp .ge 131, 3) := by decide +kernel
theorem dX9_findItems_193 : decode cX9_findItems 193 = .ok (.aload_n 0, 1) := by decide +kernel
theorem dX9_findItems_194 : decode cX9_findItems 194 = .ok (.iload_n 1, 1) := by decide +kernel
theorem dX9_findItems_195 : decode cX9_findItems 195 = .ok (.iload_n 2, 1) := by decide +kernel
theorem dX9_findItems_196 : decode cX9_findItems 196 = .ok (.invokevirtual 107, 3) := by decide +kernel
theorem dX9_findItems_199 : decode cX9_findItems 199 = .ok (.ifCond .ne 6, 3) := by decide +kernel
theorem dX9_findItems_202 : decode cX9_findItems 202 = .ok (.goto 113, 3) := by decide +kernel
theorem dX9_findItems_205 : decode cX9_findItems 205 = .ok (.aload_n 0, 1) := by decide +kernel
theorem dX9_findItems_206 : decode cX9_findItems 206 = .ok (.getfield 29, 3) := by decide +kernel
theorem dX9_findItems_209 : decode cX9_findItems 209 = .ok (.iload_n 1, 1) := by decide +kernel
theorem dX9_findItems_210 : decode cX9_findItems 210 = .ok (.iaload, 1) := by decide +kernel
theorem dX9_findItems_211 : decode cX9_findItems 211 = .ok (.istore_n 3, 1) := by decide +kernel
theorem dX9_findItems_212 : decode cX9_findItems 212 = .ok (.iload_n 3, 1) := by decide +kernel
theorem dX9_findItems_213 : decode cX9_findItems 213 = .ok (.aload_n 0, 1) := by decide +kernel
theorem dX9_findItems_214 : decode cX9_findItems 214 = .ok (.getfield 29, 3) := by decide +kernel
theorem dX9_findItems_217 : decode cX9_findItems 217 = .ok (.iload_n 2, 1) := by decide +kernel
theorem dX9_findItems_218 : decode cX9_findItems 218 = .ok (.iaload, 1) := by decide +kernel
theorem dX9_findItems_219 : decode cX9_findItems 219 = .ok (.if_icmp .ge 96, 3) := by decide +kernel
theorem dX9_findItems_222 : decode cX9_findItems 222 = .ok (.bipush 16, 2) := by decide +kernel
theorem dX9_findItems_224 : decode cX9_findItems 224 = .ok (.iload_n 3, 1) := by decide +kernel
theorem dX9_findItems_225 : decode cX9_findItems 225 = .ok (.imul, 1) := by decide +kernel
theorem dX9_findItems_226 : decode cX9_findItems 226 = .ok (.aload_n 0, 1) := by decide +kernel
theorem dX9_findItems_227 : decode cX9_findItems 227 = .ok (.getfield 41, 3) := by decide +kernel
theorem dX9_findItems_230 : decode cX9_findItems 230 = .ok (.iload_n 3, 1) := by decide +kernel
theorem dX9_findItems_231 : decode cX9_findItems 231 = .ok (.iaload, 1) := by decide +kernel
theorem dX9_findItems_232 : decode cX9_findItems 232 = .ok (.iadd, 1) := by decide +kernel
theorem dX9_findItems_233 : decode cX9_findItems 233 = .ok (.istore 4, 2) := by decide +kernel
theorem dX9_findItems_235 : decode cX9_findItems 235 = .ok (.aload_n 0, 1) := by decide +kernel
theorem dX9_findItems_236 : decode cX9_findItems 236 = .ok (.getfield 44, 3) := by decide +kernel
theorem dX9_findItems_239 : decode cX9_findItems 239 = .ok (.iload 4, 2) := by decide +kernel
theorem dX9_findItems_241 : decode cX9_findItems 241 = .ok (.aload_n 0, 1) := by decide +kernel
theorem dX9_findItems_242 : decode cX9_findItems 242 = .ok (.iload_n 3, 1) := by decide +kernel
theorem dX9_findItems_243 : decode cX9_findItems 243 = .ok (.aload_n 0, 1) := by decide +kernel
theorem dX9_findItems_244 : decode cX9_findItems 244 = .ok (.iload_n 1, 1) := by decide +kernel
theorem dX9_findItems_245 : decode cX9_findItems 245 = .ok (.iload_n 2, 1) := by decide +kernel
theorem dX9_findItems_246 : decode cX9_findItems 246 = .ok (.iload_n 3, 1) := by decide +kernel
theorem dX9_findItems_247 : decode cX9_findItems 247 = .ok (.invokevirtual 114, 3) := by decide +kernel
theorem dX9_findItems_250 : decode cX9_findItems 250 = .ok (.invokevirtual 118, 3) := by decide +kernel
theorem dX9_findItems_253 : decode cX9_findItems 253 = .ok (.iastore, 1) := by decide +kernel
theorem dX9_findItems_254 : decode cX9_findItems 254 = .ok (.aload_n 0, 1) := by decide +kernel
theorem dX9_findItems_255 : decode cX9_findItems 255 = .ok (.getfield 47, 3) := by decide +kernel
theorem dX9_findItems_258 : decode cX9_findItems 258 = .ok (.iload 4, 2) := by decide +kernel
theorem dX9_findItems_260 : decode cX9_findItems 260 = .ok (.aload_n 0, 1) := by decide +kernel
theorem dX9_findItems_261 : decode cX9_findItems 261 = .ok (.iload_n 3, 1) := by decide +kernel
theorem dX9_findItems_262 : decode cX9_findItems 262 = .ok (.iconst 1, 1) := by decide +kernel
theorem dX9_findItems_263 : decode cX9_findItems 263 = .ok (.iadd, 1) := by decide +kernel
theorem dX9_findItems_264 : decode cX9_findItems 264 = .ok (.aload_n 0, 1) := by decide +kernel
theorem dX9_findItems_265 : decode cX9_findItems 265 = .ok (.iload_n 1, 1) := by decide +kernel
theorem dX9_findItems_266 : decode cX9_findItems 266 = .ok (.iload_n 2, 1) := by decide +kernel
theorem dX9_findItems_267 : decode cX9_findItems 267 = .ok (.iload_n 3, 1) := by decide +kernel
theorem dX9_findItems_268 : decode cX9_findItems 268 = .ok (.iconst 1, 1) := by decide +kernel
theorem dX9_findItems_269 : decode cX9_findItems 269 = .ok (.iadd, 1) := by decide +kernel
theorem dX9_findItems_270 : decode cX9_findItems 270 = .ok (.invokevirtual 114, 3) := by decide +kernel
theorem dX9_findItems_273 : decode cX9_findItems 273 = .ok (.invokevirtual 118, 3) := by decide +kernel
theorem dX9_findItems_276 : decode cX9_findItems 276 = .ok (.iastore, 1) := by decide +kernel
theorem dX9_findItems_277 : decode cX9_findItems 277 = .ok (.aload_n 0, 1) := by decide +kernel
theorem dX9_findItems_278 : decode cX9_findItems 278 = .ok (.getfield 50, 3) := by decide +kernel
theorem dX9_findItems_281 : decode cX9_findItems 281 = .ok (.iload 4, 2) := by decide +kernel
theorem dX9_findItems_283 : decode cX9_findItems 283 = .ok (.aload_n 0, 1) := by decide +kernel
theorem dX9_findItems_284 : decode cX9_findItems 284 = .ok (.getfield 7, 3) := by decide +kernel
theorem dX9_findItems_287 : decode cX9_findItems 287 = .ok (.bipush 10, 2) := by decide +kernel
theorem dX9_findItems_289 : decode cX9_findItems 289 = .ok (.iload_n 1, 1) := by decide +kernel
theorem dX9_findItems_290 : decode cX9_findItems 290 = .ok (.imul, 1) := by decide +kernel
theorem dX9_findItems_291 : decode cX9_findItems 291 = .ok (.iload_n 2, 1) := by decide +kernel
theorem dX9_findItems_292 : decode cX9_findItems 292 = .ok (.iadd, 1) := by decide +kernel
theorem dX9_findItems_293 : decode cX9_findItems 293 = .ok (.iaload, 1) := by decide +kernel
theorem dX9_findItems_294 : decode cX9_findItems 294 = .ok (.iastore, 1) := by decide +kernel
theorem dX9_findItems_295 : decode cX9_findItems 295 = .ok (.aload_n 0, 1) := by decide +kernel
theorem dX9_findItems_296 : decode cX9_findItems 296 = .ok (.getfield 41, 3) := by decide +kernel
theorem dX9_findItems_299 : decode cX9_findItems 299 = .ok (.iload_n 3, 1) := by decide +kernel
theorem dX9_findItems_300 : decode cX9_findItems 300 = .ok (.aload_n 0, 1) := by decide +kernel
theorem dX9_findItems_301 : decode cX9_findItems 301 = .ok (.getfield 41, 3) := by decide +kernel
theorem dX9_findItems_304 : decode cX9_findItems 304 = .ok (.iload_n 3, 1) := by decide +kernel
theorem dX9_findItems_305 : decode cX9_findItems 305 = .ok (.iaload, 1) := by decide +kernel
theorem dX9_findItems_306 : decode cX9_findItems 306 = .ok (.iconst 1, 1) := by decide +kernel
theorem dX9_findItems_307 : decode cX9_findItems 307 = .ok (.iadd, 1) := by decide +kernel
theorem dX9_findItems_308 : decode cX9_findItems 308 = .ok (.iastore, 1) := by decide +kernel
theorem dX9_findItems_309 : decode cX9_findItems 309 = .ok (.iinc 3 1, 3) := by decide +kernel
theorem dX9_findItems_312 : decode cX9_findItems 312 = .ok (.goto (-100), 3) := by decide +kernel
theorem dX9_findItems_315 : decode cX9_findItems 315 = .ok (.iinc 2 1, 3) := by decide +kernel
theorem dX9_findItems_318 : decode cX9_findItems 318 = .ok (.goto (-131), 3) := by decide +kernel
theorem dX9_findItems_321 : decode cX9_findItems 321 = .ok (.iinc 1 1, 3) := by decide +kernel
theorem dX9_findItems_324 : decode cX9_findItems 324 = .ok (.goto (-145), 3) := by decide +kernel
theorem dX9_findItems_327 : decode cX9_findItems 327 = .ok (.return_, 1) := by decide +kernel
theorem dX9_factorial_0 : decode cX9_factorial 0 = .ok (.iconst 1, 1) := by decide +kernel
theorem dX9_factorial_1 : decode cX9_factorial 1 = .ok (.istore_n 2, 1) := by decide +kernel
theorem dX9_factorial_2 : decode cX9_factorial 2 = .ok (.iconst 2, 1) := by decide +kernel
theorem dX9_factorial_3 : decode cX9_factorial 3 = .ok (.istore_n 3, 1) := by decide +kernel
theorem dX9_factorial_4 : decode cX9_factorial 4 = .ok (.iload_n 3, 1) := by decide +kernel
theorem dX9_factorial_5 : decode cX9_factorial 5 = .ok (.iload_n 1, 1) := by decide +kernel
theorem dX9_factorial_6 : decode cX9_factorial 6 = .ok (.if_icmp .gt 13, 3) := by decide +kernel
theorem dX9_factorial_9 : decode cX9_factorial 9 = .ok (.iload_n 2, 1) := by decide +kernel
theorem dX9_factorial_10 : decode cX9_factorial 10 = .ok (.iload_n 3, 1) := by decide +kernel
theorem dX9_factorial_11 : decode cX9_factorial 11 = .ok (.imul, 1) := by decide +kernel
theorem dX9_factorial_12 : decode cX9_factorial 12 = .ok (.istore_n 2, 1) := by decide +kernel
theorem dX9_factorial_13 : decode cX9_factorial 13 = .ok (.iinc 3 1, 3) := by decide +kernel
theorem dX9_factorial_16 : decode cX9_factorial 16 = .ok (.goto (-12), 3) := by decide +kernel
theorem dX9_factorial_19 : decode cX9_factorial 19 = .ok (.iload_n 2, 1) := by decide +kernel
theorem dX9_factorial_20 : decode cX9_factorial 20 = .ok (.ireturn, 1) := by decide +kernel
theorem dX9_makeRows_0 : decode cX9_makeRows 0 = .ok (.aload_n 0, 1) := by decide +kernel
theorem dX9_makeRows_1 : decode cX9_makeRows 1 = .ok (.getfield 121, 3) := by decide +kernel
theorem dX9_makeRows_4 : decode cX9_makeRows 4 = .ok (.ifCond .eq 4, 3) := by decide +kernel
theorem dX9_makeRows_7 : decode cX9_makeRows 7 = .ok (.return_, 1) := by decide +kernel
theorem dX9_makeRows_8 : decode cX9_makeRows 8 = .ok (.aload_n 0, 1) := by decide +kernel
theorem dX9_makeRows_9 : decode cX9_makeRows 9 = .ok (.iconst 1, 1) := by decide +kernel
theorem dX9_makeRows_10 : decode cX9_makeRows 10 = .ok (.putfield 121, 3) := by decide +kernel
theorem dX9_makeRows_13 : decode cX9_makeRows 13 = .ok (.iconst 0, 1) := by decide +kernel
theorem dX9_makeRows_14 : decode cX9_makeRows 14 = .ok (.istore_n 1, 1) := by decide +kernel
theorem dX9_makeRows_15 : decode cX9_makeRows 15 = .ok (.iload_n 1, 1) := by decide +kernel
theorem dX9_makeRows_16 : decode cX9_makeRows 16 = .ok (.iconst 5, 1) := by decide +kernel
theorem dX9_makeRows_17 : decode cX9_makeRows 17 = .ok (.if_icmp .gt 141, 3) := by decide +kernel
theorem dX9_makeRows_20 : decode cX9_makeRows 20 = .ok (.iconst 0, 1) := by decide +kernel
theorem dX9_makeRows_21 : decode cX9_makeRows 21 = .ok (.istore_n 2, 1) := by decide +kernel
theorem dX9_makeRows_22 : decode cX9_makeRows 22 = .ok (.iload_n 2, 1) := by decide +kernel
theorem dX9_makeRows_23 : decode cX9_makeRows 23 = .ok (.aload_n 0, 1) := by decide +kernel
theorem dX9_makeRows_24 : decode cX9_makeRows 24 = .ok (.iload_n 1, 1) := by decide +kernel
theorem dX9_makeRows_25 : decode cX9_makeRows 25 = .ok (.invokevirtual 124, 3) := by decide +kernel
theorem dX9_makeRows_28 : decode cX9_makeRows 28 = .ok (.if_icmp .ge 124, 3) := by decide +kernel
theorem dX9_makeRows_31 : decode cX9_makeRows 31 = .ok (.iload_n 2, 1) := by decide +kernel
theorem dX9_makeRows_32 : decode cX9_makeRows 32 = .ok (.istore_n 3, 1) := by decide +kernel
theorem dX9_makeRows_33 : decode cX9_makeRows 33 = .ok (.iconst 0, 1) := by decide +kernel
theorem dX9_makeRows_34 : decode cX9_makeRows 34 = .ok (.istore 4, 2) := by decide +kernel
theorem dX9_makeRows_36 : decode cX9_makeRows 36 = .ok (.iconst 0, 1) := by decide +kernel
theorem dX9_makeRows_37 : decode cX9_makeRows 37 = .ok (.istore 5, 2) := by decide +kernel
theorem dX9_makeRows_39 : decode cX9_makeRows 39 = .ok (.iload 5, 2) := by decide +kernel
theorem dX9_makeRows_41 : decode cX9_makeRows 41 = .ok (.iload_n 1, 1) := by decide +kernel
theorem dX9_makeRows_42 : decode cX9_makeRows 42 = .ok (.if_icmp .ge 104, 3) := by decide +kernel
theorem dX9_makeRows_45 : decode cX9_makeRows 45 = .ok (.aload_n 0, 1) := by decide +kernel
theorem dX9_makeRows_46 : decode cX9_makeRows 46 = .ok (.iload_n 1, 1) := by decide +kernel
theorem dX9_makeRows_47 : decode cX9_makeRows 47 = .ok (.iconst 1, 1) := by decide +kernel
theorem dX9_makeRows_48 : decode cX9_makeRows 48 = .ok (.isub, 1) := by decide +kernel
theorem dX9_makeRows_49 : decode cX9_makeRows 49 = .ok (.iload 5, 2) := by decide +kernel
theorem dX9_makeRows_51 : decode cX9_makeRows 51 = .ok (.isub, 1) := by decide +kernel
theorem dX9_makeRows_52 : decode cX9_makeRows 52 = .ok (.invokevirtual 124, 3) := by decide +kernel
theorem dX9_makeRows_55 : decode cX9_makeRows 55 = .ok (.istore 6, 2) := by decide +kernel
theorem dX9_makeRows_57 : decode cX9_makeRows 57 = .ok (.iload_n 3, 1) := by decide +kernel
theorem dX9_makeRows_58 : decode cX9_makeRows 58 = .ok (.iload 6, 2) := by decide +kernel
theorem dX9_makeRows_60 : decode cX9_makeRows 60 = .ok (.idiv, 1) := by decide +kernel
theorem dX9_makeRows_61 : decode cX9_makeRows 61 = .ok (.istore 7, 2) := by decide +kernel
theorem dX9_makeRows_63 : decode cX9_makeRows 63 = .ok (.iload_n 3, 1) := by decide +kernel
theorem dX9_makeRows_64 : decode cX9_makeRows 64 = .ok (.iload 6, 2) := by decide +kernel
theorem dX9_makeRows_66 : decode cX9_makeRows 66 = .ok (.irem, 1) := by decide +kernel
theorem dX9_makeRows_67 : decode cX9_makeRows 67 = .ok (.istore_n 3, 1) := by decide +kernel
theorem dX9_makeRows_68 : decode cX9_makeRows 68 = .ok (.iconst 0, 1) := by decide +kernel
theorem dX9_makeRows_69 : decode cX9_makeRows 69 = .ok (.istore 8, 2) := by decide +kernel
theorem dX9_makeRows_71 : decode cX9_makeRows 71 = .ok (.iload 4, 2) := by decide +kernel
theorem dX9_makeRows_73 : decode cX9_makeRows 73 = .ok (.iload 8, 2) := by decide +kernel
theorem dX9_makeRows_75 : decode cX9_makeRows 75 = .ok (.ishr, 1) := by decide +kernel
theorem dX9_makeRows_76 : decode cX9_makeRows 76 = .ok (.iconst 1, 1) := by decide +kernel
theorem dX9_makeRows_77 : decode cX9_makeRows 77 = .ok (.iand, 1) := by decide +kernel
theorem dX9_makeRows_78 : decode cX9_makeRows 78 = .ok (.iconst 1, 1) := by decide +kernel
theorem dX9_makeRows_79 : decode cX9_makeRows 79 = .ok (.if_icmp .eq 8, 3) := by decide +kernel
theorem dX9_makeRows_82 : decode cX9_makeRows 82 = .ok (.iload 7, 2) := by decide +kernel
theorem dX9_makeRows_84 : decode cX9_makeRows 84 = .ok (.ifCond .le 28, 3) := by decide +kernel
theorem dX9_makeRows_87 : decode cX9_makeRows 87 = .ok (.iload 4, 2) := by decide +kernel
theorem dX9_makeRows_89 : decode cX9_makeRows 89 = .ok (.iload 8, 2) := by decide +kernel
theorem dX9_makeRows_91 : decode cX9_makeRows 91 = .ok (.ishr, 1) := by decide +kernel
theorem dX9_makeRows_92 : decode cX9_makeRows 92 = .ok (.iconst 1, 1) := by decide +kernel
theorem dX9_makeRows_93 : decode cX9_makeRows 93 = .ok (.iand, 1) := by decide +kernel
theorem dX9_makeRows_94 : decode cX9_makeRows 94 = .ok (.ifCond .ne 9, 3) := by decide +kernel
theorem dX9_makeRows_97 : decode cX9_makeRows 97 = .ok (.iload 7, 2) := by decide +kernel
theorem dX9_makeRows_99 : decode cX9_makeRows 99 = .ok (.iconst 1, 1) := by decide +kernel
theorem dX9_makeRows_100 : decode cX9_makeRows 100 = .ok (.isub, 1) := by decide +kernel
theorem dX9_makeRows_101 : decode cX9_makeRows 101 = .ok (.istore 7, 2) := by decide +kernel
theorem dX9_makeRows_103 : decode cX9_makeRows 103 = .ok (.iload 8, 2) := by decide +kernel
theorem dX9_makeRows_105 : decode cX9_makeRows 105 = .ok (.iconst 1, 1) := by decide +kernel
theorem dX9_makeRows_106 : decode cX9_makeRows 106 = .ok (.iadd, 1) := by decide +kernel
theorem dX9_makeRows_107 : decode cX9_makeRows 107 = .ok (.istore 8, 2) := by decide +kernel
theorem dX9_makeRows_109 : decode cX9_makeRows 109 = .ok (.goto (-38), 3) := by decide +kernel
theorem dX9_makeRows_112 : decode cX9_makeRows 112 = .ok (.iload 4, 2) := by decide +kernel
theorem dX9_makeRows_114 : decode cX9_makeRows 114 = .ok (.iconst 1, 1) := by decide +kernel
theorem dX9_makeRows_115 : decode cX9_makeRows 115 = .ok (.iload 8, 2) := by decide +kernel
theorem dX9_makeRows_117 : decode cX9_makeRows 117 = .ok (.ishl, 1) := by decide +kernel
theorem dX9_makeRows_118 : decode cX9_makeRows 118 = .ok (.ior, 1) := by decide +kernel
theorem dX9_makeRows_119 : decode cX9_makeRows 119 = .ok (.istore 4, 2) := by decide +kernel
theorem dX9_makeRows_121 : decode cX9_makeRows 121 = .ok (.aload_n 0, 1) := by decide +kernel
theorem dX9_makeRows_122 : decode cX9_makeRows 122 = .ok (.getfield 53, 3) := by decide +kernel
theorem dX9_makeRows_125 : decode cX9_makeRows 125 = .ok (.sipush 600, 3) := by decide +kernel
theorem dX9_makeRows_128 : decode cX9_makeRows 128 = .ok (.iload_n 1, 1) := by decide +kernel
theorem dX9_makeRows_129 : decode cX9_makeRows 129 = .ok (.imul, 1) := by decide +kernel
theorem dX9_makeRows_130 : decode cX9_makeRows 130 = .ok (.iconst 5, 1) := by decide +kernel
theorem dX9_makeRows_131 : decode cX9_makeRows 131 = .ok (.iload_n 2, 1) := by decide +kernel
theorem dX9_makeRows_132 : decode cX9_makeRows 132 = .ok (.imul, 1) := by decide +kernel
theorem dX9_makeRows_133 : decode cX9_makeRows 133 = .ok (.iadd, 1) := by decide +kernel
theorem dX9_makeRows_134 : decode cX9_makeRows 134 = .ok (.iload 8, 2) := by decide +kernel
theorem dX9_makeRows_136 : decode cX9_makeRows 136 = .ok (.iadd, 1) := by decide +kernel
theorem dX9_makeRows_137 : decode cX9_makeRows 137 = .ok (.iload 5, 2) := by decide +kernel
theorem dX9_makeRows_139 : decode cX9_makeRows 139 = .ok (.iastore, 1) := by decide +kernel
theorem dX9_makeRows_140 : decode cX9_makeRows 140 = .ok (.iinc 5 1, 3) := by decide +kernel
theorem dX9_makeRows_143 : decode cX9_makeRows 143 = .ok (.goto (-104), 3) := by decide +kernel
theorem dX9_makeRows_146 : decode cX9_makeRows 146 = .ok (.iinc 2 1, 3) := by decide +kernel
theorem dX9_makeRows_149 : decode cX9_makeRows 149 = .ok (.goto (-127), 3) := by decide +kernel
theorem dX9_makeRows_152 : decode cX9_makeRows 152 = .ok (.iinc 1 1, 3) := by decide +kernel
theorem dX9_makeRows_155 : decode cX9_makeRows 155 = .ok (.goto (-140), 3) := by decide +kernel
theorem dX9_makeRows_158 : decode cX9_makeRows 158 = .ok (.return_, 1) := by decide +kernel
theorem dX9_standOf_0 : decode cX9_standOf 0 = .ok (.aload_n 0, 1) := by decide +kernel
theorem dX9_standOf_1 : decode cX9_standOf 1 = .ok (.getfield 53, 3) := by decide +kernel
theorem dX9_standOf_4 : decode cX9_standOf 4 = .ok (.sipush 600, 3) := by decide +kernel
theorem dX9_standOf_7 : decode cX9_standOf 7 = .ok (.aload_n 0, 1) := by decide +kernel
theorem dX9_standOf_8 : decode cX9_standOf 8 = .ok (.getfield 35, 3) := by decide +kernel
theorem dX9_standOf_11 : decode cX9_standOf 11 = .ok (.iload_n 1, 1) := by decide +kernel
theorem dX9_standOf_12 : decode cX9_standOf 12 = .ok (.iaload, 1) := by decide +kernel
theorem dX9_standOf_13 : decode cX9_standOf 13 = .ok (.imul, 1) := by decide +kernel
theorem dX9_standOf_14 : decode cX9_standOf 14 = .ok (.iconst 5, 1) := by decide +kernel
theorem dX9_standOf_15 : decode cX9_standOf 15 = .ok (.iload_n 2, 1) := by decide +kernel
theorem dX9_standOf_16 : decode cX9_standOf 16 = .ok (.imul, 1) := by decide +kernel
theorem dX9_standOf_17 : decode cX9_standOf 17 = .ok (.iadd, 1) := by decide +kernel
theorem dX9_standOf_18 : decode cX9_standOf 18 = .ok (.iload_n 3, 1) := by decide +kernel
theorem dX9_standOf_19 : decode cX9_standOf 19 = .ok (.iadd, 1) := by decide +kernel
theorem dX9_standOf_20 : decode cX9_standOf 20 = .ok (.iaload, 1) := by decide +kernel
theorem dX9_standOf_21 : decode cX9_standOf 21 = .ok (.ireturn, 1) := by decide +kernel
theorem dX9_crosses_0 : decode cX9_crosses 0 = .ok (.iconst 0, 1) := by decide +kernel
theorem dX9_crosses_1 : decode cX9_crosses 1 = .ok (.istore 4, 2) := by decide +kernel
theorem dX9_crosses_3 : decode cX9_crosses 3 = .ok (.aload_n 0, 1) := by decide +kernel
theorem dX9_crosses_4 : decode cX9_crosses 4 = .ok (.iconst 0, 1) := by decide +kernel
theorem dX9_crosses_5 : decode cX9_crosses 5 = .ok (.putfield 128, 3) := by decide +kernel
theorem dX9_crosses_8 : decode cX9_crosses 8 = .ok (.bipush 16, 2) := by decide +kernel
theorem dX9_crosses_10 : decode cX9_crosses 10 = .ok (.iload_n 1, 1) := by decide +kernel
theorem dX9_crosses_11 : decode cX9_crosses 11 = .ok (.imul, 1) := by decide +kernel
theorem dX9_crosses_12 : decode cX9_crosses 12 = .ok (.istore 5, 2) := by decide +kernel
theorem dX9_crosses_14 : decode cX9_crosses 14 = .ok (.iload 5, 2) := by decide +kernel
theorem dX9_crosses_16 : decode cX9_crosses 16 = .ok (.bipush 16, 2) := by decide +kernel
theorem dX9_crosses_18 : decode cX9_crosses 18 = .ok (.iload_n 1, 1) := by decide +kernel
theorem dX9_crosses_19 : decode cX9_crosses 19 = .ok (.imul, 1) := by decide +kernel
theorem dX9_crosses_20 : decode cX9_crosses 20 = .ok (.aload_n 0, 1) := by decide +kernel
theorem dX9_crosses_21 : decode cX9_crosses 21 = .ok (.getfield 41, 3) := by decide +kernel
theorem dX9_crosses_24 : decode cX9_crosses 24 = .ok (.iload_n 1, 1) := by decide +kernel
theorem dX9_crosses_25 : decode cX9_crosses 25 = .ok (.iaload, 1) := by decide +kernel
theorem dX9_crosses_26 : decode cX9_crosses 26 = .ok (.iadd, 1) := by decide +kernel
theorem dX9_crosses_27 : decode cX9_crosses 27 = .ok (.if_icmp .ge 144, 3) := by decide +kernel
theorem dX9_crosses_30 : decode cX9_crosses 30 = .ok (.bipush 16, 2) := by decide +kernel
theorem dX9_crosses_32 : decode cX9_crosses 32 = .ok (.iload_n 1, 1) := by decide +kernel
theorem dX9_crosses_33 : decode cX9_crosses 33 = .ok (.imul, 1) := by decide +kernel
theorem dX9_crosses_34 : decode cX9_crosses 34 = .ok (.istore 6, 2) := by decide +kernel
theorem dX9_crosses_36 : decode cX9_crosses 36 = .ok (.iload 6, 2) := by decide +kernel
theorem dX9_crosses_38 : decode cX9_crosses 38 = .ok (.bipush 16, 2) := by decide +kernel
theorem dX9_crosses_40 : decode cX9_crosses 40 = .ok (.iload_n 1, 1) := by decide +kernel
theorem dX9_crosses_41 : decode cX9_crosses 41 = .ok (.imul, 1) := by decide +kernel
theorem dX9_crosses_42 : decode cX9_crosses 42 = .ok (.aload_n 0, 1) := by decide +kernel
theorem dX9_crosses_43 : decode cX9_crosses 43 = .ok (.getfield 41, 3) := by decide +kernel
theorem dX9_crosses_46 : decode cX9_crosses 46 = .ok (.iload_n 1, 1) := by decide +kernel
theorem dX9_crosses_47 : decode cX9_crosses 47 = .ok (.iaload, 1) := by decide +kernel
theorem dX9_crosses_48 : decode cX9_crosses 48 = .ok (.iadd, 1) := by decide +kernel
theorem dX9_crosses_49 : decode cX9_crosses 49 = .ok (.if_icmp .ge 116, 3) := by decide +kernel
theorem dX9_crosses_52 : decode cX9_crosses 52 = .ok (.aload_n 0, 1) := by decide +kernel
theorem dX9_crosses_53 : decode cX9_crosses 53 = .ok (.iload_n 1, 1) := by decide +kernel
theorem dX9_crosses_54 : decode cX9_crosses 54 = .ok (.iload_n 2, 1) := by decide +kernel
theorem dX9_crosses_55 : decode cX9_crosses 55 = .ok (.aload_n 0, 1) := by decide +kernel
theorem dX9_crosses_56 : decode cX9_crosses 56 = .ok (.getfield 44, 3) := by decide +kernel
theorem dX9_crosses_59 : decode cX9_crosses 59 = .ok (.iload 5, 2) := by decide +kernel
theorem dX9_crosses_61 : decode cX9_crosses 61 = .ok (.iaload, 1) := by decide +kernel
theorem dX9_crosses_62 : decode cX9_crosses 62 = .ok (.invokevirtual 131, 3) := by decide +kernel
theorem dX9_crosses_65 : decode cX9_crosses 65 = .ok (.aload_n 0, 1) := by decide +kernel
theorem dX9_crosses_66 : decode cX9_crosses 66 = .ok (.iload_n 1, 1) := by decide +kernel
theorem dX9_crosses_67 : decode cX9_crosses 67 = .ok (.iload_n 2, 1) := by decide +kernel
theorem dX9_crosses_68 : decode cX9_crosses 68 = .ok (.aload_n 0, 1) := by decide +kernel
theorem dX9_crosses_69 : decode cX9_crosses 69 = .ok (.getfield 44, 3) := by decide +kernel
theorem dX9_crosses_72 : decode cX9_crosses 72 = .ok (.iload 6, 2) := by decide +kernel
theorem dX9_crosses_74 : decode cX9_crosses 74 = .ok (.iaload, 1) := by decide +kernel
theorem dX9_crosses_75 : decode cX9_crosses 75 = .ok (.invokevirtual 131, 3) := by decide +kernel
theorem dX9_crosses_78 : decode cX9_crosses 78 = .ok (.if_icmp .ge 40, 3) := by decide +kernel
theorem dX9_crosses_81 : decode cX9_crosses 81 = .ok (.aload_n 0, 1) := by decide +kernel
theorem dX9_crosses_82 : decode cX9_crosses 82 = .ok (.iload_n 1, 1) := by decide +kernel
theorem dX9_crosses_83 : decode cX9_crosses 83 = .ok (.iconst 1, 1) := by decide +kernel
theorem dX9_crosses_84 : decode cX9_crosses 84 = .ok (.iadd, 1) := by decide +kernel
theorem dX9_crosses_85 : decode cX9_crosses 85 = .ok (.iload_n 3, 1) := by decide +kernel
theorem dX9_crosses_86 : decode cX9_crosses 86 = .ok (.aload_n 0, 1) := by decide +kernel
theorem dX9_crosses_87 : decode cX9_crosses 87 = .ok (.getfield 47, 3) := by decide +kernel
theorem dX9_crosses_90 : decode cX9_crosses 90 = .ok (.iload 5, 2) := by decide +kernel
theorem dX9_crosses_92 : decode cX9_crosses 92 = .ok (.iaload, 1) := by decide +kernel
theorem dX9_crosses_93 : decode cX9_crosses 93 = .ok (.invokevirtual 131, 3) := by decide +kernel
theorem dX9_crosses_96 : decode cX9_crosses 96 = .ok (.aload_n 0, 1) := by decide +kernel
theorem dX9_crosses_97 : decode cX9_crosses 97 = .ok (.iload_n 1, 1) := by decide +kernel
theorem dX9_crosses_98 : decode cX9_crosses 98 = .ok (.iconst 1, 1) := by decide +kernel
theorem dX9_crosses_99 : decode cX9_crosses 99 = .ok (.iadd, 1) := by decide +kernel
theorem dX9_crosses_100 : decode cX9_crosses 100 = .ok (.iload_n 3, 1) := by decide +kernel
theorem dX9_crosses_101 : decode cX9_crosses 101 = .ok (.aload_n 0, 1) := by decide +kernel
theorem dX9_crosses_102 : decode cX9_crosses 102 = .ok (.getfield 47, 3) := by decide +kernel
theorem dX9_crosses_105 : decode cX9_crosses 105 = .ok (.iload 6, 2) := by decide +kernel
theorem dX9_crosses_107 : decode cX9_crosses 107 = .ok (.iaload, 1) := by decide +kernel
theorem dX9_crosses_108 : decode cX9_crosses 108 = .ok (.invokevirtual 131, 3) := by decide +kernel
theorem dX9_crosses_111 : decode cX9_crosses 111 = .ok (.if_icmp .le 7, 3) := by decide +kernel
theorem dX9_crosses_114 : decode cX9_crosses 114 = .ok (.iconst 1, 1) := by decide +kernel
theorem dX9_crosses_115 : decode cX9_crosses 115 = .ok (.goto 4, 3) := by decide +kernel
theorem dX9_crosses_118 : decode cX9_crosses 118 = .ok (.iconst 0, 1) := by decide +kernel
theorem dX9_crosses_119 : decode cX9_crosses 119 = .ok (.istore 7, 2) := by decide +kernel
theorem dX9_crosses_121 : decode cX9_crosses 121 = .ok (.iload 7, 2) := by decide +kernel
theorem dX9_crosses_123 : decode cX9_crosses 123 = .ok (.ifCond .ne 6, 3) := by decide +kernel
theorem dX9_crosses_126 : decode cX9_crosses 126 = .ok (.goto 33, 3) := by decide +kernel
theorem dX9_crosses_129 : decode cX9_crosses 129 = .ok (.iload 4, 2) := by decide +kernel
theorem dX9_crosses_131 : decode cX9_crosses 131 = .ok (.aload_n 0, 1) := by decide +kernel
theorem dX9_crosses_132 : decode cX9_crosses 132 = .ok (.getfield 50, 3) := by decide +kernel
theorem dX9_crosses_135 : decode cX9_crosses 135 = .ok (.iload 5, 2) := by decide +kernel
theorem dX9_crosses_137 : decode cX9_crosses 137 = .ok (.iaload, 1) := by decide +kernel
theorem dX9_crosses_138 : decode cX9_crosses 138 = .ok (.aload_n 0, 1) := by decide +kernel
theorem dX9_crosses_139 : decode cX9_crosses 139 = .ok (.getfield 50, 3) := by decide +kernel
theorem dX9_crosses_142 : decode cX9_crosses 142 = .ok (.iload 6, 2) := by decide +kernel
theorem dX9_crosses_144 : decode cX9_crosses 144 = .ok (.iaload, 1) := by decide +kernel
theorem dX9_crosses_145 : decode cX9_crosses 145 = .ok (.imul, 1) := by decide +kernel
theorem dX9_crosses_146 : decode cX9_crosses 146 = .ok (.iadd, 1) := by decide +kernel
theorem dX9_crosses_147 : decode cX9_crosses 147 = .ok (.istore 4, 2) := by decide +kernel
theorem dX9_crosses_149 : decode cX9_crosses 149 = .ok (.aload_n 0, 1) := by decide +kernel
theorem dX9_crosses_150 : decode cX9_crosses 150 = .ok (.aload_n 0, 1) := by decide +kernel
theorem dX9_crosses_151 : decode cX9_crosses 151 = .ok (.getfield 128, 3) := by decide +kernel
theorem dX9_crosses_154 : decode cX9_crosses 154 = .ok (.iconst 1, 1) := by decide +kernel
theorem dX9_crosses_155 : decode cX9_crosses 155 = .ok (.iadd, 1) := by decide +kernel
theorem dX9_crosses_156 : decode cX9_crosses 156 = .ok (.putfield 128, 3) := by decide +kernel
theorem dX9_crosses_159 : decode cX9_crosses 159 = .ok (.iinc 6 1, 3) := by decide +kernel
theorem dX9_crosses_162 : decode cX9_crosses 162 = .ok (.goto (-126), 3) := by decide +kernel
theorem dX9_crosses_165 : decode cX9_crosses 165 = .ok (.iinc 5 1, 3) := by decide +kernel
theorem dX9_crosses_168 : decode cX9_crosses 168 = .ok (.goto (-154), 3) := by decide +kernel
theorem dX9_crosses_171 : decode cX9_crosses 171 = .ok (.iload 4, 2) := by decide +kernel
theorem dX9_crosses_173 : decode cX9_crosses 173 = .ok (.ireturn, 1) := by decide +kernel
theorem dX9_moves_0 : decode cX9_moves 0 = .ok (.iconst 0, 1) := by decide +kernel
theorem dX9_moves_1 : decode cX9_moves 1 = .ok (.istore_n 3, 1) := by decide +kernel
theorem dX9_moves_2 : decode cX9_moves 2 = .ok (.iconst 0, 1) := by decide +kernel
theorem dX9_moves_3 : decode cX9_moves 3 = .ok (.istore 4, 2) := by decide +kernel
theorem dX9_moves_5 : decode cX9_moves 5 = .ok (.iload 4, 2) := by decide +kernel
theorem dX9_moves_7 : decode cX9_moves 7 = .ok (.aload_n 0, 1) := by decide +kernel
theorem dX9_moves_8 : decode cX9_moves 8 = .ok (.getfield 35, 3) := by decide +kernel
theorem dX9_moves_11 : decode cX9_moves 11 = .ok (.iload_n 1, 1) := by decide +kernel
theorem dX9_moves_12 : decode cX9_moves 12 = .ok (.iaload, 1) := by decide +kernel
theorem dX9_moves_13 : decode cX9_moves 13 = .ok (.if_icmp .ge 158, 3) := by decide +kernel
theorem dX9_moves_16 : decode cX9_moves 16 = .ok (.iload 4, 2) := by decide +kernel
theorem dX9_moves_18 : decode cX9_moves 18 = .ok (.iconst 1, 1) := by decide +kernel
theorem dX9_moves_19 : decode cX9_moves 19 = .ok (.iadd, 1) := by decide +kernel
theorem dX9_moves_20 : decode cX9_moves 20 = .ok (.istore 5, 2) := by decide +kernel
theorem dX9_moves_22 : decode cX9_moves 22 = .ok (.iload 5, 2) := by decide +kernel
theorem dX9_moves_24 : decode cX9_moves 24 = .ok (.aload_n 0, 1) := by decide +kernel
theorem dX9_moves_25 : decode cX9_moves 25 = .ok (.getfield 35, 3) := by decide +kernel
theorem dX9_moves_28 : decode cX9_moves 28 = .ok (.iload_n 1, 1) := by decide +kernel
theorem dX9_moves_29 : decode cX9_moves 29 = .ok (.iaload, 1) := by decide +kernel
theorem dX9_moves_30 : decode cX9_moves 30 = .ok (.if_icmp .ge 135, 3) := by decide +kernel
theorem dX9_moves_33 : decode cX9_moves 33 = .ok (.aload_n 0, 1) := by decide +kernel
theorem dX9_moves_34 : decode cX9_moves 34 = .ok (.getfield 38, 3) := by decide +kernel
theorem dX9_moves_37 : decode cX9_moves 37 = .ok (.bipush 30, 2) := by decide +kernel
theorem dX9_moves_39 : decode cX9_moves 39 = .ok (.iload_n 1, 1) := by decide +kernel
theorem dX9_moves_40 : decode cX9_moves 40 = .ok (.imul, 1) := by decide +kernel
theorem dX9_moves_41 : decode cX9_moves 41 = .ok (.iload 4, 2) := by decide +kernel
theorem dX9_moves_43 : decode cX9_moves 43 = .ok (.iadd, 1) := by decide +kernel
theorem dX9_moves_44 : decode cX9_moves 44 = .ok (.iaload, 1) := by decide +kernel
theorem dX9_moves_45 : decode cX9_moves 45 = .ok (.istore 6, 2) := by decide +kernel
theorem dX9_moves_47 : decode cX9_moves 47 = .ok (.aload_n 0, 1) := by decide +kernel
theorem dX9_moves_48 : decode cX9_moves 48 = .ok (.getfield 38, 3) := by decide +kernel
theorem dX9_moves_51 : decode cX9_moves 51 = .ok (.bipush 30, 2) := by decide +kernel
theorem dX9_moves_53 : decode cX9_moves 53 = .ok (.iload_n 1, 1) := by decide +kernel
theorem dX9_moves_54 : decode cX9_moves 54 = .ok (.imul, 1) := by decide +kernel
theorem dX9_moves_55 : decode cX9_moves 55 = .ok (.iload 5, 2) := by decide +kernel
theorem dX9_moves_57 : decode cX9_moves 57 = .ok (.iadd, 1) := by decide +kernel
theorem dX9_moves_58 : decode cX9_moves 58 = .ok (.iaload, 1) := by decide +kernel
theorem dX9_moves_59 : decode cX9_moves 59 = .ok (.istore 7, 2) := by decide +kernel
theorem dX9_moves_61 : decode cX9_moves 61 = .ok (.iload 6, 2) := by decide +kernel
theorem dX9_moves_63 : decode cX9_moves 63 = .ok (.bipush 9, 2) := by decide +kernel
theorem dX9_moves_65 : decode cX9_moves 65 = .ok (.if_icmp .gt 94, 3) := by decide +kernel
theorem dX9_moves_68 : decode cX9_moves 68 = .ok (.iload 7, 2) := by decide +kernel
theorem dX9_moves_70 : decode cX9_moves 70 = .ok (.bipush 9, 2) := by decide +kernel
theorem dX9_moves_72 : decode cX9_moves 72 = .ok (.if_icmp .gt 87, 3) := by decide +kernel
theorem dX9_moves_75 : decode cX9_moves 75 = .ok (.aload_n 0, 1) := by decide +kernel
theorem dX9_moves_76 : decode cX9_moves 76 = .ok (.getfield 17, 3) := by decide +kernel
theorem dX9_moves_79 : decode cX9_moves 79 = .ok (.iload 6, 2) := by decide +kernel
theorem dX9_moves_81 : decode cX9_moves 81 = .ok (.iaload, 1) := by decide +kernel
theorem dX9_moves_82 : decode cX9_moves 82 = .ok (.iconst (-1), 1) := by decide +kernel
theorem dX9_moves_83 : decode cX9_moves 83 = .ok (.if_icmp .eq 76, 3) := by decide +kernel
theorem dX9_moves_86 : decode cX9_moves 86 = .ok (.aload_n 0, 1) := by decide +kernel
theorem dX9_moves_87 : decode cX9_moves 87 = .ok (.getfield 17, 3) := by decide +kernel
theorem dX9_moves_90 : decode cX9_moves 90 = .ok (.iload 6, 2) := by decide +kernel
theorem dX9_moves_92 : decode cX9_moves 92 = .ok (.iaload, 1) := by decide +kernel
theorem dX9_moves_93 : decode cX9_moves 93 = .ok (.aload_n 0, 1) := by decide +kernel
theorem dX9_moves_94 : decode cX9_moves 94 = .ok (.getfield 17, 3) := by decide +kernel
theorem dX9_moves_97 : decode cX9_moves 97 = .ok (.iload 7, 2) := by decide +kernel
theorem dX9_moves_99 : decode cX9_moves 99 = .ok (.iaload, 1) := by decide +kernel
theorem dX9_moves_100 : decode cX9_moves 100 = .ok (.if_icmp .eq 6, 3) := by decide +kernel
theorem dX9_moves_103 : decode cX9_moves 103 = .ok (.goto 56, 3) := by decide +kernel
theorem dX9_moves_106 : decode cX9_moves 106 = .ok (.aload_n 0, 1) := by decide +kernel
theorem dX9_moves_107 : decode cX9_moves 107 = .ok (.iload_n 1, 1) := by decide +kernel
theorem dX9_moves_108 : decode cX9_moves 108 = .ok (.iload_n 2, 1) := by decide +kernel
theorem dX9_moves_109 : decode cX9_moves 109 = .ok (.iload 4, 2) := by decide +kernel
theorem dX9_moves_111 : decode cX9_moves 111 = .ok (.invokevirtual 131, 3) := by decide +kernel
theorem dX9_moves_114 : decode cX9_moves 114 = .ok (.aload_n 0, 1) := by decide +kernel
theorem dX9_moves_115 : decode cX9_moves 115 = .ok (.iload_n 1, 1) := by decide +kernel
theorem dX9_moves_116 : decode cX9_moves 116 = .ok (.iload_n 2, 1) := by decide +kernel
theorem dX9_moves_117 : decode cX9_moves 117 = .ok (.iload 5, 2) := by decide +kernel
theorem dX9_moves_119 : decode cX9_moves 119 = .ok (.invokevirtual 131, 3) := by decide +kernel
theorem dX9_moves_122 : decode cX9_moves 122 = .ok (.if_icmp .ge 7, 3) := by decide +kernel
theorem dX9_moves_125 : decode cX9_moves 125 = .ok (.iconst 1, 1) := by decide +kernel
theorem dX9_moves_126 : decode cX9_moves 126 = .ok (.goto 4, 3) := by decide +kernel
theorem dX9_moves_129 : decode cX9_moves 129 = .ok (.iconst 0, 1) := by decide +kernel
theorem dX9_moves_130 : decode cX9_moves 130 = .ok (.aload_n 0, 1) := by decide +kernel
theorem dX9_moves_131 : decode cX9_moves 131 = .ok (.getfield 20, 3) := by decide +kernel
theorem dX9_moves_134 : decode cX9_moves 134 = .ok (.iload 6, 2) := by decide +kernel
theorem dX9_moves_136 : decode cX9_moves 136 = .ok (.iaload, 1) := by decide +kernel
theorem dX9_moves_137 : decode cX9_moves 137 = .ok (.aload_n 0, 1) := by decide +kernel
theorem dX9_moves_138 : decode cX9_moves 138 = .ok (.getfield 20, 3) := by decide +kernel
theorem dX9_moves_141 : decode cX9_moves 141 = .ok (.iload 7, 2) := by decide +kernel
theorem dX9_moves_143 : decode cX9_moves 143 = .ok (.iaload, 1) := by decide +kernel
theorem dX9_moves_144 : decode cX9_moves 144 = .ok (.if_icmp .ge 7, 3) := by decide +kernel
theorem dX9_moves_147 : decode cX9_moves 147 = .ok (.iconst 1, 1) := by decide +kernel
theorem dX9_moves_148 : decode cX9_moves 148 = .ok (.goto 4, 3) := by decide +kernel
theorem dX9_moves_151 : decode cX9_moves 151 = .ok (.iconst 0, 1) := by decide +kernel
theorem dX9_moves_152 : decode cX9_moves 152 = .ok (.if_icmp .eq 7, 3) := by decide +kernel
theorem dX9_moves_155 : decode cX9_moves 155 = .ok (.iload_n 3, 1) := by decide +kernel
theorem dX9_moves_156 : decode cX9_moves 156 = .ok (.iconst 1, 1) := by decide +kernel
theorem dX9_moves_157 : decode cX9_moves 157 = .ok (.iadd, 1) := by decide +kernel
theorem dX9_moves_158 : decode cX9_moves 158 = .ok (.istore_n 3, 1) := by decide +kernel
theorem dX9_moves_159 : decode cX9_moves 159 = .ok (.iinc 5 1, 3) := by decide +kernel
theorem dX9_moves_162 : decode cX9_moves 162 = .ok (.goto (-140), 3) := by decide +kernel
theorem dX9_moves_165 : decode cX9_moves 165 = .ok (.iinc 4 1, 3) := by decide +kernel
theorem dX9_moves_168 : decode cX9_moves 168 = .ok (.goto (-163), 3) := by decide +kernel
theorem dX9_moves_171 : decode cX9_moves 171 = .ok (.iload_n 3, 1) := by decide +kernel
theorem dX9_moves_172 : decode cX9_moves 172 = .ok (.ireturn, 1) := by decide +kernel
theorem dX9_findOrder_0 : decode cX9_findOrder 0 = .ok (.aload_n 0, 1) := by decide +kernel
theorem dX9_findOrder_1 : decode cX9_findOrder 1 = .ok (.invokevirtual 134, 3) := by decide +kernel
theorem dX9_findOrder_4 : decode cX9_findOrder 4 = .ok (.aload_n 0, 1) := by decide +kernel
theorem dX9_findOrder_5 : decode cX9_findOrder 5 = .ok (.getfield 110, 3) := by decide +kernel
theorem dX9_findOrder_8 : decode cX9_findOrder 8 = .ok (.ifCond .ne 4, 3) := by decide +kernel
theorem dX9_findOrder_11 : decode cX9_findOrder 11 = .ok (.return_, 1) := by decide +kernel
theorem dX9_findOrder_12 : decode cX9_findOrder 12 = .ok (.aload_n 0, 1) := by decide +kernel
theorem dX9_findOrder_13 : decode cX9_findOrder 13 = .ok (.invokevirtual 137, 3) := by decide +kernel
theorem dX9_findOrder_16 : decode cX9_findOrder 16 = .ok (.aload_n 0, 1) := by decide +kernel
theorem dX9_findOrder_17 : decode cX9_findOrder 17 = .ok (.iconst 0, 1) := by decide +kernel
theorem dX9_findOrder_18 : decode cX9_findOrder 18 = .ok (.putfield 140, 3) := by decide +kernel
theorem dX9_findOrder_21 : decode cX9_findOrder 21 = .ok (.aload_n 0, 1) := by decide +kernel
theorem dX9_findOrder_22 : decode cX9_findOrder 22 = .ok (.iconst 1, 1) := by decide +kernel
theorem dX9_findOrder_23 : decode cX9_findOrder 23 = .ok (.putfield 143, 3) := by decide +kernel
theorem dX9_findOrder_26 : decode cX9_findOrder 26 = .ok (.aload_n 0, 1) := by decide +kernel
theorem dX9_findOrder_27 : decode cX9_findOrder 27 = .ok (.getfield 90, 3) := by decide +kernel
theorem dX9_findOrder_30 : decode cX9_findOrder 30 = .ok (.iconst 1, 1) := by decide +kernel
theorem dX9_findOrder_31 : decode cX9_findOrder 31 = .ok (.isub, 1) := by decide +kernel
theorem dX9_findOrder_32 : decode cX9_findOrder 32 = .ok (.istore_n 1, 1) := by decide +kernel
theorem dX9_findOrder_33 : decode cX9_findOrder 33 = .ok (.iload_n 1, 1) := by decide +kernel
theorem dX9_findOrder_34 : decode cX9_findOrder 34 = .ok (.ifCond .lt 200, 3) := by decide +kernel
theorem dX9_findOrder_37 : decode cX9_findOrder 37 = .ok (.iconst 0, 1) := by decide +kernel
theorem dX9_findOrder_38 : decode cX9_findOrder 38 = .ok (.istore_n 2, 1) := by decide +kernel
theorem dX9_findOrder_39 : decode cX9_findOrder 39 = .ok (.iload_n 2, 1) := by decide +kernel
theorem dX9_findOrder_40 : decode cX9_findOrder 40 = .ok (.aload_n 0, 1) := by decide +kernel
theorem dX9_findOrder_41 : decode cX9_findOrder 41 = .ok (.aload_n 0, 1) := by decide +kernel
theorem dX9_findOrder_42 : decode cX9_findOrder 42 = .ok (.getfield 35, 3) := by decide +kernel
theorem dX9_findOrder_45 : decode cX9_findOrder 45 = .ok (.iload_n 1, 1) := by decide +kernel
theorem dX9_findOrder_46 : decode cX9_findOrder 46 = .ok (.iaload, 1) := by decide +kernel
theorem dX9_findOrder_47 : decode cX9_findOrder 47 = .ok (.invokevirtual 124, 3) := by decide +kernel
theorem dX9_findOrder_50 : decode cX9_findOrder 50 = .ok (.if_icmp .ge 178, 3) := by decide +kernel
theorem dX9_findOrder_53 : decode cX9_findOrder 53 = .ok (.iload_n 1, 1) := by decide +kernel
theorem dX9_findOrder_54 : decode cX9_findOrder 54 = .ok (.aload_n 0, 1) := by decide +kernel
theorem dX9_findOrder_55 : decode cX9_findOrder 55 = .ok (.getfield 90, 3) := by decide +kernel
theorem dX9_findOrder_58 : decode cX9_findOrder 58 = .ok (.iconst 1, 1) := by decide +kernel
theorem dX9_findOrder_59 : decode cX9_findOrder 59 = .ok (.isub, 1) := by decide +kernel
theorem dX9_findOrder_60 : decode cX9_findOrder 60 = .ok (.if_icmp .ne 7, 3) := by decide +kernel
theorem dX9_findOrder_63 : decode cX9_findOrder 63 = .ok (.iconst 0, 1) := by decide +kernel
theorem dX9_findOrder_64 : decode cX9_findOrder 64 = .ok (.goto 5, 3) := by decide +kernel
theorem dX9_findOrder_67 : decode cX9_findOrder 67 = .ok (.ldc 82, 2) := by decide +kernel
theorem dX9_findOrder_69 : decode cX9_findOrder 69 = .ok (.istore_n 3, 1) := by decide +kernel
theorem dX9_findOrder_70 : decode cX9_findOrder 70 = .ok (.iload_n 1, 1) := by decide +kernel
theorem dX9_findOrder_71 : decode cX9_findOrder 71 = .ok (.aload_n 0, 1) := by decide +kernel
theorem dX9_findOrder_72 : decode cX9_findOrder 72 = .ok (.getfield 90, 3) := by decide +kernel
theorem dX9_findOrder_75 : decode cX9_findOrder 75 = .ok (.iconst 1, 1) := by decide +kernel
theorem dX9_findOrder_76 : decode cX9_findOrder 76 = .ok (.isub, 1) := by decide +kernel
theorem dX9_findOrder_77 : decode cX9_findOrder 77 = .ok (.if_icmp .ne 7, 3) := by decide +kernel
theorem dX9_findOrder_80 : decode cX9_findOrder 80 = .ok (.iconst 1, 1) := by decide +kernel
theorem dX9_findOrder_81 : decode cX9_findOrder 81 = .ok (.goto 4, 3) := by decide +kernel
theorem dX9_findOrder_84 : decode cX9_findOrder 84 = .ok (.iconst 0, 1) := by decide +kernel
theorem dX9_findOrder_85 : decode cX9_findOrder 85 = .ok (.istore 4, 2) := by decide +kernel
theorem dX9_findOrder_87 : decode cX9_findOrder 87 = .ok (.iconst 0, 1) := by decide +kernel
theorem dX9_findOrder_88 : decode cX9_findOrder 88 = .ok (.istore 5, 2) := by decide +kernel
theorem dX9_findOrder_90 : decode cX9_findOrder 90 = .ok (.iload_n 1, 1) := by decide +kernel
theorem dX9_findOrder_91 : decode cX9_findOrder 91 = .ok (.iconst 1, 1) := by decide +kernel
theorem dX9_findOrder_92 : decode cX9_findOrder 92 = .ok (.iadd, 1) := by decide +kernel
theorem dX9_findOrder_93 : decode cX9_findOrder 93 = .ok (.aload_n 0, 1) := by decide +kernel
theorem dX9_findOrder_94 : decode cX9_findOrder 94 = .ok (.getfield 90, 3) := by decide +kernel
theorem dX9_findOrder_97 : decode cX9_findOrder 97 = .ok (.if_icmp .ge 88, 3) := by decide +kernel
theorem dX9_findOrder_100 : decode cX9_findOrder 100 = .ok (.iload 5, 2) := by decide +kernel
theorem dX9_findOrder_102 : decode cX9_findOrder 102 = .ok (.aload_n 0, 1) := by decide +kernel
theorem dX9_findOrder_103 : decode cX9_findOrder 103 = .ok (.aload_n 0, 1) := by decide +kernel
theorem dX9_findOrder_104 : decode cX9_findOrder 104 = .ok (.getfield 35, 3) := by decide +kernel
theorem dX9_findOrder_107 : decode cX9_findOrder 107 = .ok (.iload_n 1, 1) := by decide +kernel
theorem dX9_findOrder_108 : decode cX9_findOrder 108 = .ok (.iconst 1, 1) := by decide +kernel
theorem dX9_findOrder_109 : decode cX9_findOrder 109 = .ok (.iadd, 1) := by decide +kernel
theorem dX9_findOrder_110 : decode cX9_findOrder 110 = .ok (.iaload, 1) := by decide +kernel
theorem dX9_findOrder_111 : decode cX9_findOrder 111 = .ok (.invokevirtual 124, 3) := by decide +kernel
theorem dX9_findOrder_114 : decode cX9_findOrder 114 = .ok (.if_icmp .ge 71, 3) := by decide +kernel
theorem dX9_findOrder_117 : decode cX9_findOrder 117 = .ok (.aload_n 0, 1) := by decide +kernel
theorem dX9_findOrder_118 : decode cX9_findOrder 118 = .ok (.iload_n 1, 1) := by decide +kernel
theorem dX9_findOrder_119 : decode cX9_findOrder 119 = .ok (.iload_n 2, 1) := by decide +kernel
theorem dX9_findOrder_120 : decode cX9_findOrder 120 = .ok (.iload 5, 2) := by decide +kernel
theorem dX9_findOrder_122 : decode cX9_findOrder 122 = .ok (.invokevirtual 146, 3) := by decide +kernel
theorem dX9_findOrder_125 : decode cX9_findOrder 125 = .ok (.aload_n 0, 1) := by decide +kernel
