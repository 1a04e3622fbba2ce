theorem dX5_sumWithFirst_50 : decode cX5_sumWithFirst 50 = .ok (.iinc 4 1, 3) := by decide +kernel
theorem dX5_sumWithFirst_53 : decode cX5_sumWithFirst 53 = .ok (.goto (-38), 3) := by decide +kernel
theorem dX5_sumWithFirst_56 : decode cX5_sumWithFirst 56 = .ok (.iload_n 3, 1) := by decide +kernel
theorem dX5_sumWithFirst_57 : decode cX5_sumWithFirst 57 = .ok (.ireturn, 1) := by decide +kernel
theorem dX5_lineUp_0 : decode cX5_lineUp 0 = .ok (.aload_n 0, 1) := by decide +kernel
theorem dX5_lineUp_1 : decode cX5_lineUp 1 = .ok (.getfield 34, 3) := by decide +kernel
theorem dX5_lineUp_4 : decode cX5_lineUp 4 = .ok (.iconst (-1), 1) := by decide +kernel
theorem dX5_lineUp_5 : decode cX5_lineUp 5 = .ok (.invokestatic 99, 3) := by decide +kernel
theorem dX5_lineUp_8 : decode cX5_lineUp 8 = .ok (.iconst 1, 1) := by decide +kernel
theorem dX5_lineUp_9 : decode cX5_lineUp 9 = .ok (.aload_n 0, 1) := by decide +kernel
theorem dX5_lineUp_10 : decode cX5_lineUp 10 = .ok (.getfield 15, 3) := by decide +kernel
theorem dX5_lineUp_13 : decode cX5_lineUp 13 = .ok (.ishl, 1) := by decide +kernel
theorem dX5_lineUp_14 : decode cX5_lineUp 14 = .ok (.iconst 1, 1) := by decide +kernel
theorem dX5_lineUp_15 : decode cX5_lineUp 15 = .ok (.isub, 1) := by decide +kernel
theorem dX5_lineUp_16 : decode cX5_lineUp 16 = .ok (.istore_n 1, 1) := by decide +kernel
theorem dX5_lineUp_17 : decode cX5_lineUp 17 = .ok (.iconst 0, 1) := by decide +kernel
theorem dX5_lineUp_18 : decode cX5_lineUp 18 = .ok (.istore_n 2, 1) := by decide +kernel
theorem dX5_lineUp_19 : decode cX5_lineUp 19 = .ok (.iload_n 2, 1) := by decide +kernel
theorem dX5_lineUp_20 : decode cX5_lineUp 20 = .ok (.aload_n 0, 1) := by decide +kernel
theorem dX5_lineUp_21 : decode cX5_lineUp 21 = .ok (.getfield 15, 3) := by decide +kernel
theorem dX5_lineUp_24 : decode cX5_lineUp 24 = .ok (.if_icmp .ge 47, 3) := by decide +kernel
theorem dX5_lineUp_27 : decode cX5_lineUp 27 = .ok (.aload_n 0, 1) := by decide +kernel
theorem dX5_lineUp_28 : decode cX5_lineUp 28 = .ok (.iload_n 1, 1) := by decide +kernel
theorem dX5_lineUp_29 : decode cX5_lineUp 29 = .ok (.invokevirtual 105, 3) := by decide +kernel
theorem dX5_lineUp_32 : decode cX5_lineUp 32 = .ok (.istore_n 3, 1) := by decide +kernel
theorem dX5_lineUp_33 : decode cX5_lineUp 33 = .ok (.aload_n 0, 1) := by decide +kernel
theorem dX5_lineUp_34 : decode cX5_lineUp 34 = .ok (.getfield 31, 3) := by decide +kernel
theorem dX5_lineUp_37 : decode cX5_lineUp 37 = .ok (.iload_n 2, 1) := by decide +kernel
theorem dX5_lineUp_38 : decode cX5_lineUp 38 = .ok (.aload_n 0, 1) := by decide +kernel
theorem dX5_lineUp_39 : decode cX5_lineUp 39 = .ok (.getfield 9, 3) := by decide +kernel
theorem dX5_lineUp_42 : decode cX5_lineUp 42 = .ok (.iload_n 3, 1) := by decide +kernel
theorem dX5_lineUp_43 : decode cX5_lineUp 43 = .ok (.iaload, 1) := by decide +kernel
theorem dX5_lineUp_44 : decode cX5_lineUp 44 = .ok (.iastore, 1) := by decide +kernel
theorem dX5_lineUp_45 : decode cX5_lineUp 45 = .ok (.aload_n 0, 1) := by decide +kernel
theorem dX5_lineUp_46 : decode cX5_lineUp 46 = .ok (.getfield 34, 3) := by decide +kernel
theorem dX5_lineUp_49 : decode cX5_lineUp 49 = .ok (.aload_n 0, 1) := by decide +kernel
theorem dX5_lineUp_50 : decode cX5_lineUp 50 = .ok (.getfield 9, 3) := by decide +kernel
theorem dX5_lineUp_53 : decode cX5_lineUp 53 = .ok (.iload_n 3, 1) := by decide +kernel
theorem dX5_lineUp_54 : decode cX5_lineUp 54 = .ok (.iaload, 1) := by decide +kernel
theorem dX5_lineUp_55 : decode cX5_lineUp 55 = .ok (.iload_n 2, 1) := by decide +kernel
theorem dX5_lineUp_56 : decode cX5_lineUp 56 = .ok (.iastore, 1) := by decide +kernel
theorem dX5_lineUp_57 : decode cX5_lineUp 57 = .ok (.iload_n 1, 1) := by decide +kernel
theorem dX5_lineUp_58 : decode cX5_lineUp 58 = .ok (.iconst 1, 1) := by decide +kernel
theorem dX5_lineUp_59 : decode cX5_lineUp 59 = .ok (.iload_n 3, 1) := by decide +kernel
theorem dX5_lineUp_60 : decode cX5_lineUp 60 = .ok (.ishl, 1) := by decide +kernel
theorem dX5_lineUp_61 : decode cX5_lineUp 61 = .ok (.iconst (-1), 1) := by decide +kernel
theorem dX5_lineUp_62 : decode cX5_lineUp 62 = .ok (.ixor, 1) := by decide +kernel
theorem dX5_lineUp_63 : decode cX5_lineUp 63 = .ok (.iand, 1) := by decide +kernel
theorem dX5_lineUp_64 : decode cX5_lineUp 64 = .ok (.istore_n 1, 1) := by decide +kernel
theorem dX5_lineUp_65 : decode cX5_lineUp 65 = .ok (.iinc 2 1, 3) := by decide +kernel
theorem dX5_lineUp_68 : decode cX5_lineUp 68 = .ok (.goto (-49), 3) := by decide +kernel
theorem dX5_lineUp_71 : decode cX5_lineUp 71 = .ok (.return_, 1) := by decide +kernel
theorem dX5_firstOf_0 : decode cX5_firstOf 0 = .ok (.iconst 0, 1) := by decide +kernel
theorem dX5_firstOf_1 : decode cX5_firstOf 1 = .ok (.istore_n 2, 1) := by decide +kernel
theorem dX5_firstOf_2 : decode cX5_firstOf 2 = .ok (.iload_n 2, 1) := by decide +kernel
theorem dX5_firstOf_3 : decode cX5_firstOf 3 = .ok (.aload_n 0, 1) := by decide +kernel
theorem dX5_firstOf_4 : decode cX5_firstOf 4 = .ok (.getfield 15, 3) := by decide +kernel
theorem dX5_firstOf_7 : decode cX5_firstOf 7 = .ok (.if_icmp .ge 38, 3) := by decide +kernel
theorem dX5_firstOf_10 : decode cX5_firstOf 10 = .ok (.iconst 1, 1) := by decide +kernel
theorem dX5_firstOf_11 : decode cX5_firstOf 11 = .ok (.iload_n 2, 1) := by decide +kernel
theorem dX5_firstOf_12 : decode cX5_firstOf 12 = .ok (.ishl, 1) := by decide +kernel
theorem dX5_firstOf_13 : decode cX5_firstOf 13 = .ok (.istore_n 3, 1) := by decide +kernel
theorem dX5_firstOf_14 : decode cX5_firstOf 14 = .ok (.iload_n 1, 1) := by decide +kernel
theorem dX5_firstOf_15 : decode cX5_firstOf 15 = .ok (.iload_n 3, 1) := by decide +kernel
theorem dX5_firstOf_16 : decode cX5_firstOf 16 = .ok (.iand, 1) := by decide +kernel
theorem dX5_firstOf_17 : decode cX5_firstOf 17 = .ok (.ifCond .eq 22, 3) := by decide +kernel
theorem dX5_firstOf_20 : decode cX5_firstOf 20 = .ok (.aload_n 0, 1) := by decide +kernel
theorem dX5_firstOf_21 : decode cX5_firstOf 21 = .ok (.iload_n 2, 1) := by decide +kernel
theorem dX5_firstOf_22 : decode cX5_firstOf 22 = .ok (.iload_n 1, 1) := by decide +kernel
theorem dX5_firstOf_23 : decode cX5_firstOf 23 = .ok (.iload_n 3, 1) := by decide +kernel
theorem dX5_firstOf_24 : decode cX5_firstOf 24 = .ok (.ixor, 1) := by decide +kernel
theorem dX5_firstOf_25 : decode cX5_firstOf 25 = .ok (.invokevirtual 91, 3) := by decide +kernel
theorem dX5_firstOf_28 : decode cX5_firstOf 28 = .ok (.aload_n 0, 1) := by decide +kernel
theorem dX5_firstOf_29 : decode cX5_firstOf 29 = .ok (.getfield 28, 3) := by decide +kernel
theorem dX5_firstOf_32 : decode cX5_firstOf 32 = .ok (.iload_n 1, 1) := by decide +kernel
theorem dX5_firstOf_33 : decode cX5_firstOf 33 = .ok (.iaload, 1) := by decide +kernel
theorem dX5_firstOf_34 : decode cX5_firstOf 34 = .ok (.if_icmp .ne 5, 3) := by decide +kernel
theorem dX5_firstOf_37 : decode cX5_firstOf 37 = .ok (.iload_n 2, 1) := by decide +kernel
theorem dX5_firstOf_38 : decode cX5_firstOf 38 = .ok (.ireturn, 1) := by decide +kernel
theorem dX5_firstOf_39 : decode cX5_firstOf 39 = .ok (.iinc 2 1, 3) := by decide +kernel
theorem dX5_firstOf_42 : decode cX5_firstOf 42 = .ok (.goto (-40), 3) := by decide +kernel
theorem dX5_firstOf_45 : decode cX5_firstOf 45 = .ok (.iconst 0, 1) := by decide +kernel
theorem dX5_firstOf_46 : decode cX5_firstOf 46 = .ok (.ireturn, 1) := by decide +kernel
theorem dX5_partFlows_0 : decode cX5_partFlows 0 = .ok (.aload_n 0, 1) := by decide +kernel
theorem dX5_partFlows_1 : decode cX5_partFlows 1 = .ok (.getfield 40, 3) := by decide +kernel
theorem dX5_partFlows_4 : decode cX5_partFlows 4 = .ok (.iconst 0, 1) := by decide +kernel
theorem dX5_partFlows_5 : decode cX5_partFlows 5 = .ok (.invokestatic 99, 3) := by decide +kernel
theorem dX5_partFlows_8 : decode cX5_partFlows 8 = .ok (.aload_n 0, 1) := by decide +kernel
theorem dX5_partFlows_9 : decode cX5_partFlows 9 = .ok (.iconst 0, 1) := by decide +kernel
theorem dX5_partFlows_10 : decode cX5_partFlows 10 = .ok (.putfield 46, 3) := by decide +kernel
theorem dX5_partFlows_13 : decode cX5_partFlows 13 = .ok (.aload_n 0, 1) := by decide +kernel
theorem dX5_partFlows_14 : decode cX5_partFlows 14 = .ok (.iconst 0, 1) := by decide +kernel
theorem dX5_partFlows_15 : decode cX5_partFlows 15 = .ok (.putfield 49, 3) := by decide +kernel
theorem dX5_partFlows_18 : decode cX5_partFlows 18 = .ok (.iconst 0, 1) := by decide +kernel
theorem dX5_partFlows_19 : decode cX5_partFlows 19 = .ok (.istore_n 1, 1) := by decide +kernel
theorem dX5_partFlows_20 : decode cX5_partFlows 20 = .ok (.iload_n 1, 1) := by decide +kernel
theorem dX5_partFlows_21 : decode cX5_partFlows 21 = .ok (.bipush 10, 2) := by decide +kernel
theorem dX5_partFlows_23 : decode cX5_partFlows 23 = .ok (.if_icmp .ge 81, 3) := by decide +kernel
theorem dX5_partFlows_26 : decode cX5_partFlows 26 = .ok (.iconst 0, 1) := by decide +kernel
theorem dX5_partFlows_27 : decode cX5_partFlows 27 = .ok (.istore_n 2, 1) := by decide +kernel
theorem dX5_partFlows_28 : decode cX5_partFlows 28 = .ok (.iload_n 2, 1) := by decide +kernel
theorem dX5_partFlows_29 : decode cX5_partFlows 29 = .ok (.bipush 10, 2) := by decide +kernel
theorem dX5_partFlows_31 : decode cX5_partFlows 31 = .ok (.if_icmp .ge 67, 3) := by decide +kernel
theorem dX5_partFlows_34 : decode cX5_partFlows 34 = .ok (.aload_n 0, 1) := by decide +kernel
theorem dX5_partFlows_35 : decode cX5_partFlows 35 = .ok (.getfield 52, 3) := by decide +kernel
theorem dX5_partFlows_38 : decode cX5_partFlows 38 = .ok (.iload_n 1, 1) := by decide +kernel
theorem dX5_partFlows_39 : decode cX5_partFlows 39 = .ok (.iload_n 2, 1) := by decide +kernel
theorem dX5_partFlows_40 : decode cX5_partFlows 40 = .ok (.invokevirtual 84, 3) := by decide +kernel
theorem dX5_partFlows_43 : decode cX5_partFlows 43 = .ok (.istore_n 3, 1) := by decide +kernel
theorem dX5_partFlows_44 : decode cX5_partFlows 44 = .ok (.iload_n 3, 1) := by decide +kernel
theorem dX5_partFlows_45 : decode cX5_partFlows 45 = .ok (.ifCond .le 35, 3) := by decide +kernel
theorem dX5_partFlows_48 : decode cX5_partFlows 48 = .ok (.aload_n 0, 1) := by decide +kernel
theorem dX5_partFlows_49 : decode cX5_partFlows 49 = .ok (.iload_n 1, 1) := by decide +kernel
theorem dX5_partFlows_50 : decode cX5_partFlows 50 = .ok (.iload_n 2, 1) := by decide +kernel
theorem dX5_partFlows_51 : decode cX5_partFlows 51 = .ok (.invokevirtual 109, 3) := by decide +kernel
theorem dX5_partFlows_54 : decode cX5_partFlows 54 = .ok (.ifCond .eq 26, 3) := by decide +kernel
theorem dX5_partFlows_57 : decode cX5_partFlows 57 = .ok (.aload_n 0, 1) := by decide +kernel
theorem dX5_partFlows_58 : decode cX5_partFlows 58 = .ok (.dup, 1) := by decide +kernel
theorem dX5_partFlows_59 : decode cX5_partFlows 59 = .ok (.getfield 46, 3) := by decide +kernel
theorem dX5_partFlows_62 : decode cX5_partFlows 62 = .ok (.iconst 1, 1) := by decide +kernel
theorem dX5_partFlows_63 : decode cX5_partFlows 63 = .ok (.iadd, 1) := by decide +kernel
theorem dX5_partFlows_64 : decode cX5_partFlows 64 = .ok (.putfield 46, 3) := by decide +kernel
theorem dX5_partFlows_67 : decode cX5_partFlows 67 = .ok (.aload_n 0, 1) := by decide +kernel
theorem dX5_partFlows_68 : decode cX5_partFlows 68 = .ok (.dup, 1) := by decide +kernel
theorem dX5_partFlows_69 : decode cX5_partFlows 69 = .ok (.getfield 49, 3) := by decide +kernel
theorem dX5_partFlows_72 : decode cX5_partFlows 72 = .ok (.iload_n 3, 1) := by decide +kernel
theorem dX5_partFlows_73 : decode cX5_partFlows 73 = .ok (.iadd, 1) := by decide +kernel
theorem dX5_partFlows_74 : decode cX5_partFlows 74 = .ok (.putfield 49, 3) := by decide +kernel
theorem dX5_partFlows_77 : decode cX5_partFlows 77 = .ok (.goto 15, 3) := by decide +kernel
theorem dX5_partFlows_80 : decode cX5_partFlows 80 = .ok (.aload_n 0, 1) := by decide +kernel
theorem dX5_partFlows_81 : decode cX5_partFlows 81 = .ok (.getfield 40, 3) := by decide +kernel
theorem dX5_partFlows_84 : decode cX5_partFlows 84 = .ok (.iload_n 1, 1) := by decide +kernel
theorem dX5_partFlows_85 : decode cX5_partFlows 85 = .ok (.bipush 10, 2) := by decide +kernel
theorem dX5_partFlows_87 : decode cX5_partFlows 87 = .ok (.imul, 1) := by decide +kernel
theorem dX5_partFlows_88 : decode cX5_partFlows 88 = .ok (.iload_n 2, 1) := by decide +kernel
theorem dX5_partFlows_89 : decode cX5_partFlows 89 = .ok (.iadd, 1) := by decide +kernel
theorem dX5_partFlows_90 : decode cX5_partFlows 90 = .ok (.iload_n 3, 1) := by decide +kernel
theorem dX5_partFlows_91 : decode cX5_partFlows 91 = .ok (.iastore, 1) := by decide +kernel
theorem dX5_partFlows_92 : decode cX5_partFlows 92 = .ok (.iinc 2 1, 3) := by decide +kernel
theorem dX5_partFlows_95 : decode cX5_partFlows 95 = .ok (.goto (-67), 3) := by decide +kernel
theorem dX5_partFlows_98 : decode cX5_partFlows 98 = .ok (.iinc 1 1, 3) := by decide +kernel
theorem dX5_partFlows_101 : decode cX5_partFlows 101 = .ok (.goto (-81), 3) := by decide +kernel
theorem dX5_partFlows_104 : decode cX5_partFlows 104 = .ok (.return_, 1) := by decide +kernel
theorem dX5_putInLayers_0 : decode cX5_putInLayers 0 = .ok (.aload_n 0, 1) := by decide +kernel
theorem dX5_putInLayers_1 : decode cX5_putInLayers 1 = .ok (.getfield 37, 3) := by decide +kernel
theorem dX5_putInLayers_4 : decode cX5_putInLayers 4 = .ok (.iconst (-1), 1) := by decide +kernel
theorem dX5_putInLayers_5 : decode cX5_putInLayers 5 = .ok (.invokestatic 99, 3) := by decide +kernel
theorem dX5_putInLayers_8 : decode cX5_putInLayers 8 = .ok (.aload_n 0, 1) := by decide +kernel
theorem dX5_putInLayers_9 : decode cX5_putInLayers 9 = .ok (.iconst 0, 1) := by decide +kernel
theorem dX5_putInLayers_10 : decode cX5_putInLayers 10 = .ok (.putfield 43, 3) := by decide +kernel
theorem dX5_putInLayers_13 : decode cX5_putInLayers 13 = .ok (.iconst 0, 1) := by decide +kernel
theorem dX5_putInLayers_14 : decode cX5_putInLayers 14 = .ok (.istore_n 1, 1) := by decide +kernel
theorem dX5_putInLayers_15 : decode cX5_putInLayers 15 = .ok (.iload_n 1, 1) := by decide +kernel
theorem dX5_putInLayers_16 : decode cX5_putInLayers 16 = .ok (.aload_n 0, 1) := by decide +kernel
theorem dX5_putInLayers_17 : decode cX5_putInLayers 17 = .ok (.getfield 15, 3) := by decide +kernel
theorem dX5_putInLayers_20 : decode cX5_putInLayers 20 = .ok (.if_icmp .ge 87, 3) := by decide +kernel
theorem dX5_putInLayers_23 : decode cX5_putInLayers 23 = .ok (.iconst 0, 1) := by decide +kernel
theorem dX5_putInLayers_24 : decode cX5_putInLayers 24 = .ok (.istore_n 2, 1) := by decide +kernel
theorem dX5_putInLayers_25 : decode cX5_putInLayers 25 = .ok (.iconst 0, 1) := by decide +kernel
theorem dX5_putInLayers_26 : decode cX5_putInLayers 26 = .ok (.istore_n 3, 1) := by decide +kernel
theorem dX5_putInLayers_27 : decode cX5_putInLayers 27 = .ok (.iload_n 3, 1) := by decide +kernel
theorem dX5_putInLayers_28 : decode cX5_putInLayers 28 = .ok (.iload_n 1, 1) := by decide +kernel
theorem dX5_putInLayers_29 : decode cX5_putInLayers 29 = .ok (.if_icmp .ge 46, 3) := by decide +kernel
theorem dX5_putInLayers_32 : decode cX5_putInLayers 32 = .ok (.aload_n 0, 1) := by decide +kernel
theorem dX5_putInLayers_33 : decode cX5_putInLayers 33 = .ok (.aload_n 0, 1) := by decide +kernel
theorem dX5_putInLayers_34 : decode cX5_putInLayers 34 = .ok (.getfield 31, 3) := by decide +kernel
theorem dX5_putInLayers_37 : decode cX5_putInLayers 37 = .ok (.iload_n 3, 1) := by decide +kernel
theorem dX5_putInLayers_38 : decode cX5_putInLayers 38 = .ok (.iaload, 1) := by decide +kernel
theorem dX5_putInLayers_39 : decode cX5_putInLayers 39 = .ok (.aload_n 0, 1) := by decide +kernel
theorem dX5_putInLayers_40 : decode cX5_putInLayers 40 = .ok (.getfield 31, 3) := by decide +kernel
theorem dX5_putInLayers_43 : decode cX5_putInLayers 43 = .ok (.iload_n 1, 1) := by decide +kernel
theorem dX5_putInLayers_44 : decode cX5_putInLayers 44 = .ok (.iaload, 1) := by decide +kernel
theorem dX5_putInLayers_45 : decode cX5_putInLayers 45 = .ok (.invokevirtual 112, 3) := by decide +kernel
theorem dX5_putInLayers_48 : decode cX5_putInLayers 48 = .ok (.ifCond .le 21, 3) := by decide +kernel
theorem dX5_putInLayers_51 : decode cX5_putInLayers 51 = .ok (.iload_n 2, 1) := by decide +kernel
theorem dX5_putInLayers_52 : decode cX5_putInLayers 52 = .ok (.aload_n 0, 1) := by decide +kernel
theorem dX5_putInLayers_53 : decode cX5_putInLayers 53 = .ok (.getfield 37, 3) := by decide +kernel
theorem dX5_putInLayers_56 : decode cX5_putInLayers 56 = .ok (.aload_n 0, 1) := by decide +kernel
theorem dX5_putInLayers_57 : decode cX5_putInLayers 57 = .ok (.getfield 31, 3) := by decide +kernel
theorem dX5_putInLayers_60 : decode cX5_putInLayers 60 = .ok (.iload_n 3, 1) := by decide +kernel
theorem dX5_putInLayers_61 : decode cX5_putInLayers 61 = .ok (.iaload, 1) := by decide +kernel
theorem dX5_putInLayers_62 : decode cX5_putInLayers 62 = .ok (.iaload, 1) := by decide +kernel
theorem dX5_putInLayers_63 : decode cX5_putInLayers 63 = .ok (.iconst 1, 1) := by decide +kernel
theorem dX5_putInLayers_64 : decode cX5_putInLayers 64 = .ok (.iadd, 1) := by decide +kernel
theorem dX5_putInLayers_65 : decode cX5_putInLayers 65 = .ok (.invokestatic 115, 3) := by decide +kernel
theorem dX5_putInLayers_68 : decode cX5_putInLayers 68 = .ok (.istore_n 2, 1) := by decide +kernel
theorem dX5_putInLayers_69 : decode cX5_putInLayers 69 = .ok (.iinc 3 1, 3) := by decide +kernel
theorem dX5_putInLayers_72 : decode cX5_putInLayers 72 = .ok (.goto (-45), 3) := by decide +kernel
theorem dX5_putInLayers_75 : decode cX5_putInLayers 75 = .ok (.aload_n 0, 1) := by decide +kernel
theorem dX5_putInLayers_76 : decode cX5_putInLayers 76 = .ok (.getfield 37, 3) := by decide +kernel
theorem dX5_putInLayers_79 : decode cX5_putInLayers 79 = .ok (.aload_n 0, 1) := by decide +kernel
theorem dX5_putInLayers_80 : decode cX5_putInLayers 80 = .ok (.getfield 31, 3) := by decide +kernel
theorem dX5_putInLayers_83 : decode cX5_putInLayers 83 = .ok (.iload_n 1, 1) := by decide +kernel
theorem dX5_putInLayers_84 : decode cX5_putInLayers 84 = .ok (.iaload, 1) := by decide +kernel
theorem dX5_putInLayers_85 : decode cX5_putInLayers 85 = .ok (.iload_n 2, 1) := by decide +kernel
theorem dX5_putInLayers_86 : decode cX5_putInLayers 86 = .ok (.iastore, 1) := by decide +kernel
theorem dX5_putInLayers_87 : decode cX5_putInLayers 87 = .ok (.aload_n 0, 1) := by decide +kernel
theorem dX5_putInLayers_88 : decode cX5_putInLayers 88 = .ok (.aload_n 0, 1) := by decide +kernel
theorem dX5_putInLayers_89 : decode cX5_putInLayers 89 = .ok (.getfield 43, 3) := by decide +kernel
theorem dX5_putInLayers_92 : decode cX5_putInLayers 92 = .ok (.iload_n 2, 1) := by decide +kernel
theorem dX5_putInLayers_93 : decode cX5_putInLayers 93 = .ok (.iconst 1, 1) := by decide +kernel
theorem dX5_putInLayers_94 : decode cX5_putInLayers 94 = .ok (.iadd, 1) := by decide +kernel
theorem dX5_putInLayers_95 : decode cX5_putInLayers 95 = .ok (.invokestatic 115, 3) := by decide +kernel
theorem dX5_putInLayers_98 : decode cX5_putInLayers 98 = .ok (.putfield 43, 3) := by decide +kernel
theorem dX5_putInLayers_101 : decode cX5_putInLayers 101 = .ok (.iinc 1 1, 3) := by decide +kernel
theorem dX5_putInLayers_104 : decode cX5_putInLayers 104 = .ok (.goto (-89), 3) := by decide +kernel
theorem dX5_putInLayers_107 : decode cX5_putInLayers 107 = .ok (.return_, 1) := by decide +kernel
theorem dX6_init_0 : decode cX6_init 0 = .ok (.aload_n 0, 1) := by decide +kernel
theorem dX6_init_1 : decode cX6_init 1 = .ok (.invokespecial 3, 3) := by decide +kernel
theorem dX6_init_4 : decode cX6_init 4 = .ok (.aload_n 0, 1) := by decide +kernel
theorem dX6_init_5 : decode cX6_init 5 = .ok (.bipush 6, 2) := by decide +kernel
theorem dX6_init_7 : decode cX6_init 7 = .ok (.anewarray 9, 3) := by decide +kernel
theorem dX6_init_10 : decode cX6_init 10 = .ok (.putfield 11, 3) := by decide +kernel
theorem dX6_init_13 : decode cX6_init 13 = .ok (.aload_n 0, 1) := by decide +kernel
theorem dX6_init_14 : decode cX6_init 14 = .ok (.bipush 11, 2) := by decide +kernel
theorem dX6_init_16 : decode cX6_init 16 = .ok (.bipush 120, 2) := by decide +kernel
theorem dX6_init_18 : decode cX6_init 18 = .ok (.multianewarray 17 2, 4) := by decide +kernel
theorem dX6_init_22 : decode cX6_init 22 = .ok (.putfield 19, 3) := by decide +kernel
theorem dX6_init_25 : decode cX6_init 25 = .ok (.aload_n 0, 1) := by decide +kernel
theorem dX6_init_26 : decode cX6_init 26 = .ok (.bipush 11, 2) := by decide +kernel
theorem dX6_init_28 : decode cX6_init 28 = .ok (.bipush 120, 2) := by decide +kernel
theorem dX6_init_30 : decode cX6_init 30 = .ok (.multianewarray 17 2, 4) := by decide +kernel
theorem dX6_init_34 : decode cX6_init 34 = .ok (.putfield 22, 3) := by decide +kernel
theorem dX6_init_37 : decode cX6_init 37 = .ok (.aload_n 0, 1) := by decide +kernel
theorem dX6_init_38 : decode cX6_init 38 = .ok (.bipush 11, 2) := by decide +kernel
theorem dX6_init_40 : decode cX6_init 40 = .ok (.bipush 120, 2) := by decide +kernel
theorem dX6_init_42 : decode cX6_init 42 = .ok (.multianewarray 17 2, 4) := by decide +kernel
theorem dX6_init_46 : decode cX6_init 46 = .ok (.putfield 25, 3) := by decide +kernel
theorem dX6_init_49 : decode cX6_init 49 = .ok (.aload_n 0, 1) := by decide +kernel
theorem dX6_init_50 : decode cX6_init 50 = .ok (.bipush 11, 2) := by decide +kernel
theorem dX6_init_52 : decode cX6_init 52 = .ok (.newarray .int, 2) := by decide +kernel
theorem dX6_init_54 : decode cX6_init 54 = .ok (.putfield 28, 3) := by decide +kernel
theorem dX6_init_57 : decode cX6_init 57 = .ok (.aload_n 0, 1) := by decide +kernel
theorem dX6_init_58 : decode cX6_init 58 = .ok (.iconst 0, 1) := by decide +kernel
theorem dX6_init_59 : decode cX6_init 59 = .ok (.putfield 32, 3) := by decide +kernel
theorem dX6_init_62 : decode cX6_init 62 = .ok (.aload_n 0, 1) := by decide +kernel
theorem dX6_init_63 : decode cX6_init 63 = .ok (.iconst 0, 1) := by decide +kernel
theorem dX6_init_64 : decode cX6_init 64 = .ok (.putfield 36, 3) := by decide +kernel
theorem dX6_init_67 : decode cX6_init 67 = .ok (.aload_n 0, 1) := by decide +kernel
theorem dX6_init_68 : decode cX6_init 68 = .ok (.iconst 0, 1) := by decide +kernel
theorem dX6_init_69 : decode cX6_init 69 = .ok (.putfield 39, 3) := by decide +kernel
theorem dX6_init_72 : decode cX6_init 72 = .ok (.aload_n 0, 1) := by decide +kernel
theorem dX6_init_73 : decode cX6_init 73 = .ok (.iconst 0, 1) := by decide +kernel
theorem dX6_init_74 : decode cX6_init 74 = .ok (.putfield 42, 3) := by decide +kernel
theorem dX6_init_77 : decode cX6_init 77 = .ok (.aload_n 0, 1) := by decide +kernel
theorem dX6_init_78 : decode cX6_init 78 = .ok (.iconst 0, 1) := by decide +kernel
theorem dX6_init_79 : decode cX6_init 79 = .ok (.putfield 45, 3) := by decide +kernel
theorem dX6_init_82 : decode cX6_init 82 = .ok (.aload_n 0, 1) := by decide +kernel
theorem dX6_init_83 : decode cX6_init 83 = .ok (.aload_n 1, 1) := by decide +kernel
theorem dX6_init_84 : decode cX6_init 84 = .ok (.putfield 48, 3) := by decide +kernel
theorem dX6_init_87 : decode cX6_init 87 = .ok (.aload_n 0, 1) := by decide +kernel
theorem dX6_init_88 : decode cX6_init 88 = .ok (.aload_n 2, 1) := by decide +kernel
theorem dX6_init_89 : decode cX6_init 89 = .ok (.putfield 52, 3) := by decide +kernel
theorem dX6_init_92 : decode cX6_init 92 = .ok (.aload_n 0, 1) := by decide +kernel
theorem dX6_init_93 : decode cX6_init 93 = .ok (.aload_n 3, 1) := by decide +kernel
theorem dX6_init_94 : decode cX6_init 94 = .ok (.putfield 56, 3) := by decide +kernel
theorem dX6_init_97 : decode cX6_init 97 = .ok (.aload_n 0, 1) := by decide +kernel
theorem dX6_init_98 : decode cX6_init 98 = .ok (.new 60, 3) := by decide +kernel
theorem dX6_init_101 : decode cX6_init 101 = .ok (.dup, 1) := by decide +kernel
theorem dX6_init_102 : decode cX6_init 102 = .ok (.aload_n 1, 1) := by decide +kernel
theorem dX6_init_103 : decode cX6_init 103 = .ok (.aload_n 2, 1) := by decide +kernel
theorem dX6_init_104 : decode cX6_init 104 = .ok (.aload_n 3, 1) := by decide +kernel
theorem dX6_init_105 : decode cX6_init 105 = .ok (.invokespecial 62, 3) := by decide +kernel
theorem dX6_init_108 : decode cX6_init 108 = .ok (.putfield 65, 3) := by decide +kernel
theorem dX6_init_111 : decode cX6_init 111 = .ok (.aload_n 0, 1) := by decide +kernel
theorem dX6_init_112 : decode cX6_init 112 = .ok (.getfield 11, 3) := by decide +kernel
theorem dX6_init_115 : decode cX6_init 115 = .ok (.iconst 0, 1) := by decide +kernel
theorem dX6_init_116 : decode cX6_init 116 = .ok (.new 9, 3) := by decide +kernel
theorem dX6_init_119 : decode cX6_init 119 = .ok (.dup, 1) := by decide +kernel
theorem dX6_init_120 : decode cX6_init 120 = .ok (.invokespecial 69, 3) := by decide +kernel
theorem dX6_init_123 : decode cX6_init 123 = .ok (.aastore, 1) := by decide +kernel
theorem dX6_init_124 : decode cX6_init 124 = .ok (.iconst 1, 1) := by decide +kernel
theorem dX6_init_125 : decode cX6_init 125 = .ok (.istore 4, 2) := by decide +kernel
theorem dX6_init_127 : decode cX6_init 127 = .ok (.iload 4, 2) := by decide +kernel
theorem dX6_init_129 : decode cX6_init 129 = .ok (.iconst 5, 1) := by decide +kernel
theorem dX6_init_130 : decode cX6_init 130 = .ok (.if_icmp .gt 32, 3) := by decide +kernel
theorem dX6_init_133 : decode cX6_init 133 = .ok (.aload_n 0, 1) := by decide +kernel
theorem dX6_init_134 : decode cX6_init 134 = .ok (.getfield 11, 3) := by decide +kernel
theorem dX6_init_137 : decode cX6_init 137 = .ok (.iload 4, 2) := by decide +kernel
theorem dX6_init_139 : decode cX6_init 139 = .ok (.new 9, 3) := by decide +kernel
theorem dX6_init_142 : decode cX6_init 142 = .ok (.dup, 1) := by decide +kernel
theorem dX6_init_143 : decode cX6_init 143 = .ok (.aload_n 0, 1) := by decide +kernel
theorem dX6_init_144 : decode cX6_init 144 = .ok (.getfield 11, 3) := by decide +kernel
theorem dX6_init_147 : decode cX6_init 147 = .ok (.iload 4, 2) := by decide +kernel
theorem dX6_init_149 : decode cX6_init 149 = .ok (.iconst 1, 1) := by decide +kernel
theorem dX6_init_150 : decode cX6_init 150 = .ok (.isub, 1) := by decide +kernel
theorem dX6_init_151 : decode cX6_init 151 = .ok (.aaload, 1) := by decide +kernel
theorem dX6_init_152 : decode cX6_init 152 = .ok (.invokespecial 70, 3) := by decide +kernel
theorem dX6_init_155 : decode cX6_init 155 = .ok (.aastore, 1) := by decide +kernel
theorem dX6_init_156 : decode cX6_init 156 = .ok (.iinc 4 1, 3) := by decide +kernel
theorem dX6_init_159 : decode cX6_init 159 = .ok (.goto (-32), 3) := by decide +kernel
theorem dX6_init_162 : decode cX6_init 162 = .ok (.return_, 1) := by decide +kernel
theorem dX6_leastCost_0 : decode cX6_leastCost 0 = .ok (.aload_n 0, 1) := by decide +kernel
theorem dX6_leastCost_1 : decode cX6_leastCost 1 = .ok (.getfield 32, 3) := by decide +kernel
theorem dX6_leastCost_4 : decode cX6_leastCost 4 = .ok (.ireturn, 1) := by decide +kernel
theorem dX6_leastWays_0 : decode cX6_leastWays 0 = .ok (.aload_n 0, 1) := by decide +kernel
theorem dX6_leastWays_1 : decode cX6_leastWays 1 = .ok (.getfield 36, 3) := by decide +kernel
theorem dX6_leastWays_4 : decode cX6_leastWays 4 = .ok (.ireturn, 1) := by decide +kernel
theorem dX6_crossCost_0 : decode cX6_crossCost 0 = .ok (.aload_n 0, 1) := by decide +kernel
theorem dX6_crossCost_1 : decode cX6_crossCost 1 = .ok (.getfield 39, 3) := by decide +kernel
theorem dX6_crossCost_4 : decode cX6_crossCost 4 = .ok (.ireturn, 1) := by decide +kernel
theorem dX6_crossPairs_0 : decode cX6_crossPairs 0 = .ok (.aload_n 0, 1) := by decide +kernel
theorem dX6_crossPairs_1 : decode cX6_crossPairs 1 = .ok (.getfield 42, 3) := by decide +kernel
theorem dX6_crossPairs_4 : decode cX6_crossPairs 4 = .ok (.ireturn, 1) := by decide +kernel
theorem dX6_movedPairs_0 : decode cX6_movedPairs 0 = .ok (.aload_n 0, 1) := by decide +kernel
theorem dX6_movedPairs_1 : decode cX6_movedPairs 1 = .ok (.getfield 45, 3) := by decide +kernel
theorem dX6_movedPairs_4 : decode cX6_movedPairs 4 = .ok (.ireturn, 1) := by decide +kernel
theorem dX6_solve_0 : decode cX6_solve 0 = .ok (.aload_n 0, 1) := by decide +kernel
theorem dX6_solve_1 : decode cX6_solve 1 = .ok (.getfield 48, 3) := by decide +kernel
theorem dX6_solve_4 : decode cX6_solve 4 = .ok (.invokevirtual 73, 3) := by decide +kernel
theorem dX6_solve_7 : decode cX6_solve 7 = .ok (.istore_n 2, 1) := by decide +kernel
theorem dX6_solve_8 : decode cX6_solve 8 = .ok (.aload_n 0, 1) := by decide +kernel
theorem dX6_solve_9 : decode cX6_solve 9 = .ok (.getfield 19, 3) := by decide +kernel
theorem dX6_solve_12 : decode cX6_solve 12 = .ok (.iload_n 2, 1) := by decide +kernel
theorem dX6_solve_13 : decode cX6_solve 13 = .ok (.aaload, 1) := by decide +kernel
theorem dX6_solve_14 : decode cX6_solve 14 = .ok (.iconst 0, 1) := by decide +kernel
theorem dX6_solve_15 : decode cX6_solve 15 = .ok (.iconst 0, 1) := by decide +kernel
theorem dX6_solve_16 : decode cX6_solve 16 = .ok (.iastore, 1) := by decide +kernel
theorem dX6_solve_17 : decode cX6_solve 17 = .ok (.aload_n 0, 1) := by decide +kernel
theorem dX6_solve_18 : decode cX6_solve 18 = .ok (.getfield 22, 3) := by decide +kernel
theorem dX6_solve_21 : decode cX6_solve 21 = .ok (.iload_n 2, 1) := by decide +kernel
theorem dX6_solve_22 : decode cX6_solve 22 = .ok (.aaload, 1) := by decide +kernel
theorem dX6_solve_23 : decode cX6_solve 23 = .ok (.iconst 0, 1) := by decide +kernel
theorem dX6_solve_24 : decode cX6_solve 24 = .ok (.iconst 1, 1) := by decide +kernel
theorem dX6_solve_25 : decode cX6_solve 25 = .ok (.iastore, 1) := by decide +kernel
theorem dX6_solve_26 : decode cX6_solve 26 = .ok (.iload_n 2, 1) := by decide +kernel
theorem dX6_solve_27 : decode cX6_solve 27 = .ok (.iconst 1, 1) := by decide +kernel
theorem dX6_solve_28 : decode cX6_solve 28 = .ok (.isub, 1) := by decide +kernel
theorem dX6_solve_29 : decode cX6_solve 29 = .ok (.istore_n 3, 1) := by decide +kernel
theorem dX6_solve_30 : decode cX6_solve 30 = .ok (.iload_n 3, 1) := by decide +kernel
theorem dX6_solve_31 : decode cX6_solve 31 = .ok (.ifCond .lt 15, 3) := by decide +kernel
theorem dX6_solve_34 : decode cX6_solve 34 = .ok (.aload_n 0, 1) := by decide +kernel
theorem dX6_solve_35 : decode cX6_solve 35 = .ok (.iload_n 3, 1) := by decide +kernel
theorem dX6_solve_36 : decode cX6_solve 36 = .ok (.iload_n 1, 1) := by decide +kernel
theorem dX6_solve_37 : decode cX6_solve 37 = .ok (.invokevirtual 79, 3) := by decide +kernel
theorem dX6_solve_40 : decode cX6_solve 40 = .ok (.iinc 3 (-1), 3) := by decide +kernel
theorem dX6_solve_43 : decode cX6_solve 43 = .ok (.goto (-13), 3) := by decide +kernel
theorem dX6_solve_46 : decode cX6_solve 46 = .ok (.aload_n 0, 1) := by decide +kernel
theorem dX6_solve_47 : decode cX6_solve 47 = .ok (.invokevirtual 83, 3) := by decide +kernel
theorem dX6_solve_50 : decode cX6_solve 50 = .ok (.iconst 0, 1) := by decide +kernel
theorem dX6_solve_51 : decode cX6_solve 51 = .ok (.istore_n 3, 1) := by decide +kernel
theorem dX6_solve_52 : decode cX6_solve 52 = .ok (.iload_n 3, 1) := by decide +kernel
theorem dX6_solve_53 : decode cX6_solve 53 = .ok (.iload_n 2, 1) := by decide +kernel
theorem dX6_solve_54 : decode cX6_solve 54 = .ok (.if_icmp .ge 30, 3) := by decide +kernel
theorem dX6_solve_57 : decode cX6_solve 57 = .ok (.aload_n 0, 1) := by decide +kernel
theorem dX6_solve_58 : decode cX6_solve 58 = .ok (.getfield 28, 3) := by decide +kernel
theorem dX6_solve_61 : decode cX6_solve 61 = .ok (.iload_n 3, 1) := by decide +kernel
theorem dX6_solve_62 : decode cX6_solve 62 = .ok (.iconst 1, 1) := by decide +kernel
theorem dX6_solve_63 : decode cX6_solve 63 = .ok (.iadd, 1) := by decide +kernel
theorem dX6_solve_64 : decode cX6_solve 64 = .ok (.aload_n 0, 1) := by decide +kernel
theorem dX6_solve_65 : decode cX6_solve 65 = .ok (.getfield 25, 3) := by decide +kernel
theorem dX6_solve_68 : decode cX6_solve 68 = .ok (.iload_n 3, 1) := by decide +kernel
theorem dX6_solve_69 : decode cX6_solve 69 = .ok (.aaload, 1) := by decide +kernel
theorem dX6_solve_70 : decode cX6_solve 70 = .ok (.aload_n 0, 1) := by decide +kernel
theorem dX6_solve_71 : decode cX6_solve 71 = .ok (.getfield 28, 3) := by decide +kernel
theorem dX6_solve_74 : decode cX6_solve 74 = .ok (.iload_n 3, 1) := by decide +kernel
theorem dX6_solve_75 : decode cX6_solve 75 = .ok (.iaload, 1) := by decide +kernel
theorem dX6_solve_76 : decode cX6_solve 76 = .ok (.iaload, 1) := by decide +kernel
theorem dX6_solve_77 : decode cX6_solve 77 = .ok (.iastore, 1) := by decide +kernel
theorem dX6_solve_78 : decode cX6_solve 78 = .ok (.iinc 3 1, 3) := by decide +kernel
theorem dX6_solve_81 : decode cX6_solve 81 = .ok (.goto (-29), 3) := by decide +kernel
theorem dX6_solve_84 : decode cX6_solve 84 = .ok (.aload_n 0, 1) := by decide +kernel
theorem dX6_solve_85 : decode cX6_solve 85 = .ok (.iload_n 2, 1) := by decide +kernel
theorem dX6_solve_86 : decode cX6_solve 86 = .ok (.invokevirtual 86, 3) := by decide +kernel
theorem dX6_solve_89 : decode cX6_solve 89 = .ok (.return_, 1) := by decide +kernel
theorem dX6_shownAt_0 : decode cX6_shownAt 0 = .ok (.iload_n 2, 1) := by decide +kernel
theorem dX6_shownAt_1 : decode cX6_shownAt 1 = .ok (.ifCond .lt 15, 3) := by decide +kernel
theorem dX6_shownAt_4 : decode cX6_shownAt 4 = .ok (.iload_n 2, 1) := by decide +kernel
theorem dX6_shownAt_5 : decode cX6_shownAt 5 = .ok (.aload_n 0, 1) := by decide +kernel
theorem dX6_shownAt_6 : decode cX6_shownAt 6 = .ok (.getfield 52, 3) := by decide +kernel
theorem dX6_shownAt_9 : decode cX6_shownAt 9 = .ok (.iload_n 1, 1) := by decide +kernel
theorem dX6_shownAt_10 : decode cX6_shownAt 10 = .ok (.invokevirtual 90, 3) := by decide +kernel
theorem dX6_shownAt_13 : decode cX6_shownAt 13 = .ok (.if_icmp .lt 5, 3) := by decide +kernel
theorem dX6_shownAt_16 : decode cX6_shownAt 16 = .ok (.iconst (-1), 1) := by decide +kernel
theorem dX6_shownAt_17 : decode cX6_shownAt 17 = .ok (.ireturn, 1) := by decide +kernel
theorem dX6_shownAt_18 : decode cX6_shownAt 18 = .ok (.aload_n 0, 1) := by decide +kernel
theorem dX6_shownAt_19 : decode cX6_shownAt 19 = .ok (.getfield 52, 3) := by decide +kernel
theorem dX6_shownAt_22 : decode cX6_shownAt 22 = .ok (.iload_n 1, 1) := by decide +kernel
theorem dX6_shownAt_23 : decode cX6_shownAt 23 = .ok (.aload_n 0, 1) := by decide +kernel
theorem dX6_shownAt_24 : decode cX6_shownAt 24 = .ok (.iload_n 1, 1) := by decide +kernel
theorem dX6_shownAt_25 : decode cX6_shownAt 25 = .ok (.invokevirtual 96, 3) := by decide +kernel
theorem dX6_shownAt_28 : decode cX6_shownAt 28 = .ok (.aload_n 0, 1) := by decide +kernel
theorem dX6_shownAt_29 : decode cX6_shownAt 29 = .ok (.getfield 28, 3) := by decide +kernel
theorem dX6_shownAt_32 : decode cX6_shownAt 32 = .ok (.iload_n 1, 1) := by decide +kernel
theorem dX6_shownAt_33 : decode cX6_shownAt 33 = .ok (.iaload, 1) := by decide +kernel
theorem dX6_shownAt_34 : decode cX6_shownAt 34 = .ok (.iload_n 2, 1) := by decide +kernel
theorem dX6_shownAt_35 : decode cX6_shownAt 35 = .ok (.invokevirtual 100, 3) := by decide +kernel
theorem dX6_shownAt_38 : decode cX6_shownAt 38 = .ok (.invokevirtual 104, 3) := by decide +kernel
theorem dX6_shownAt_41 : decode cX6_shownAt 41 = .ok (.ireturn, 1) := by decide +kernel
theorem dX6_spotOf_0 : decode cX6_spotOf 0 = .ok (.iconst 0, 1) := by decide +kernel
theorem dX6_spotOf_1 : decode cX6_spotOf 1 = .ok (.istore_n 3, 1) := by decide +kernel
theorem dX6_spotOf_2 : decode cX6_spotOf 2 = .ok (.iload_n 3, 1) := by decide +kernel
theorem dX6_spotOf_3 : decode cX6_spotOf 3 = .ok (.aload_n 0, 1) := by decide +kernel
theorem dX6_spotOf_4 : decode cX6_spotOf 4 = .ok (.getfield 52, 3) := by decide +kernel
theorem dX6_spotOf_7 : decode cX6_spotOf 7 = .ok (.iload_n 1, 1) := by decide +kernel
theorem dX6_spotOf_8 : decode cX6_spotOf 8 = .ok (.invokevirtual 90, 3) := by decide +kernel
theorem dX6_spotOf_11 : decode cX6_spotOf 11 = .ok (.if_icmp .ge 21, 3) := by decide +kernel
theorem dX6_spotOf_14 : decode cX6_spotOf 14 = .ok (.aload_n 0, 1) := by decide +kernel
theorem dX6_spotOf_15 : decode cX6_spotOf 15 = .ok (.iload_n 1, 1) := by decide +kernel
theorem dX6_spotOf_16 : decode cX6_spotOf 16 = .ok (.iload_n 3, 1) := by decide +kernel
theorem dX6_spotOf_17 : decode cX6_spotOf 17 = .ok (.invokevirtual 107, 3) := by decide +kernel
theorem dX6_spotOf_20 : decode cX6_spotOf 20 = .ok (.iload_n 2, 1) := by decide +kernel
theorem dX6_spotOf_21 : decode cX6_spotOf 21 = .ok (.if_icmp .ne 5, 3) := by decide +kernel
theorem dX6_spotOf_24 : decode cX6_spotOf 24 = .ok (.iload_n 3, 1) := by decide +kernel
theorem dX6_spotOf_25 : decode cX6_spotOf 25 = .ok (.ireturn, 1) := by decide +kernel
theorem dX6_spotOf_26 : decode cX6_spotOf 26 = .ok (.iinc 3 1, 3) := by decide +kernel
theorem dX6_spotOf_29 : decode cX6_spotOf 29 = .ok (.goto (-27), 3) := by decide +kernel
theorem dX6_spotOf_32 : decode cX6_spotOf 32 = .ok (.iconst (-1), 1) := by decide +kernel
theorem dX6_spotOf_33 : decode cX6_spotOf 33 = .ok (.ireturn, 1) := by decide +kernel
theorem dX6_changesOf_0 : decode cX6_changesOf 0 = .ok (.aload_n 0, 1) := by decide +kernel
theorem dX6_changesOf_1 : decode cX6_changesOf 1 = .ok (.getfield 11, 3) := by decide +kernel
theorem dX6_changesOf_4 : decode cX6_changesOf 4 = .ok (.aload_n 0, 1) := by decide +kernel
theorem dX6_changesOf_5 : decode cX6_changesOf 5 = .ok (.getfield 52, 3) := by decide +kernel
theorem dX6_changesOf_8 : decode cX6_changesOf 8 = .ok (.iload_n 1, 1) := by decide +kernel
theorem dX6_changesOf_9 : decode cX6_changesOf 9 = .ok (.invokevirtual 90, 3) := by decide +kernel
theorem dX6_changesOf_12 : decode cX6_changesOf 12 = .ok (.iconst 5, 1) := by decide +kernel
theorem dX6_changesOf_13 : decode cX6_changesOf 13 = .ok (.invokestatic 110, 3) := by decide +kernel
theorem dX6_changesOf_16 : decode cX6_changesOf 16 = .ok (.aaload, 1) := by decide +kernel
theorem dX6_changesOf_17 : decode cX6_changesOf 17 = .ok (.areturn, 1) := by decide +kernel
theorem dX6_searchLayer_0 : decode cX6_searchLayer 0 = .ok (.aload_n 0, 1) := by decide +kernel
theorem dX6_searchLayer_1 : decode cX6_searchLayer 1 = .ok (.iload_n 1, 1) := by decide +kernel
theorem dX6_searchLayer_2 : decode cX6_searchLayer 2 = .ok (.iconst 1, 1) := by decide +kernel
theorem dX6_searchLayer_3 : decode cX6_searchLayer 3 = .ok (.iadd, 1) := by decide +kernel
theorem dX6_searchLayer_4 : decode cX6_searchLayer 4 = .ok (.invokevirtual 96, 3) := by decide +kernel
theorem dX6_searchLayer_7 : decode cX6_searchLayer 7 = .ok (.astore_n 3, 1) := by decide +kernel
theorem dX6_searchLayer_8 : decode cX6_searchLayer 8 = .ok (.aload_n 0, 1) := by decide +kernel
theorem dX6_searchLayer_9 : decode cX6_searchLayer 9 = .ok (.getfield 65, 3) := by decide +kernel
theorem dX6_searchLayer_12 : decode cX6_searchLayer 12 = .ok (.iload_n 1, 1) := by decide +kernel
theorem dX6_searchLayer_13 : decode cX6_searchLayer 13 = .ok (.invokevirtual 115, 3) := by decide +kernel
theorem dX6_searchLayer_16 : decode cX6_searchLayer 16 = .ok (.aload_n 0, 1) := by decide +kernel
theorem dX6_searchLayer_17 : decode cX6_searchLayer 17 = .ok (.getfield 65, 3) := by decide +kernel
theorem dX6_searchLayer_20 : decode cX6_searchLayer 20 = .ok (.iload_n 1, 1) := by decide +kernel
theorem dX6_searchLayer_21 : decode cX6_searchLayer 21 = .ok (.iload_n 2, 1) := by decide +kernel
theorem dX6_searchLayer_22 : decode cX6_searchLayer 22 = .ok (.invokevirtual 118, 3) := by decide +kernel
theorem dX6_searchLayer_25 : decode cX6_searchLayer 25 = .ok (.aload_n 0, 1) := by decide +kernel
theorem dX6_searchLayer_26 : decode cX6_searchLayer 26 = .ok (.getfield 19, 3) := by decide +kernel
theorem dX6_searchLayer_29 : decode cX6_searchLayer 29 = .ok (.iload_n 1, 1) := by decide +kernel
theorem dX6_searchLayer_30 : decode cX6_searchLayer 30 = .ok (.aaload, 1) := by decide +kernel
theorem dX6_searchLayer_31 : decode cX6_searchLayer 31 = .ok (.ldc 123, 2) := by decide +kernel
theorem dX6_searchLayer_33 : decode cX6_searchLayer 33 = .ok (.invokestatic 124, 3) := by decide +kernel
theorem dX6_searchLayer_36 : decode cX6_searchLayer 36 = .ok (.iconst 0, 1) := by decide +kernel
theorem dX6_searchLayer_37 : decode cX6_searchLayer 37 = .ok (.istore 4, 2) := by decide +kernel
theorem dX6_searchLayer_39 : decode cX6_searchLayer 39 = .ok (.iload 4, 2) := by decide +kernel
theorem dX6_searchLayer_41 : decode cX6_searchLayer 41 = .ok (.aload_n 3, 1) := by decide +kernel
theorem dX6_searchLayer_42 : decode cX6_searchLayer 42 = .ok (.invokevirtual 130, 3) := by decide +kernel
theorem dX6_searchLayer_45 : decode cX6_searchLayer 45 = .ok (.if_icmp .ge 37, 3) := by decide +kernel
theorem dX6_searchLayer_48 : decode cX6_searchLayer 48 = .ok (.iload 4, 2) := by decide +kernel
theorem dX6_searchLayer_50 : decode cX6_searchLayer 50 = .ok (.ifCond .le 18, 3) := by decide +kernel
theorem dX6_searchLayer_53 : decode cX6_searchLayer 53 = .ok (.aload_n 0, 1) := by decide +kernel
theorem dX6_searchLayer_54 : decode cX6_searchLayer 54 = .ok (.getfield 65, 3) := by decide +kernel
theorem dX6_searchLayer_57 : decode cX6_searchLayer 57 = .ok (.iload_n 1, 1) := by decide +kernel
theorem dX6_searchLayer_58 : decode cX6_searchLayer 58 = .ok (.aload_n 3, 1) := by decide +kernel
theorem dX6_searchLayer_59 : decode cX6_searchLayer 59 = .ok (.invokevirtual 133, 3) := by decide +kernel
theorem dX6_searchLayer_62 : decode cX6_searchLayer 62 = .ok (.iload 4, 2) := by decide +kernel
theorem dX6_searchLayer_64 : decode cX6_searchLayer 64 = .ok (.iaload, 1) := by decide +kernel
theorem dX6_searchLayer_65 : decode cX6_searchLayer 65 = .ok (.invokevirtual 137, 3) := by decide +kernel
theorem dX6_searchLayer_68 : decode cX6_searchLayer 68 = .ok (.aload_n 0, 1) := by decide +kernel
theorem dX6_searchLayer_69 : decode cX6_searchLayer 69 = .ok (.iload_n 1, 1) := by decide +kernel
theorem dX6_searchLayer_70 : decode cX6_searchLayer 70 = .ok (.iload 4, 2) := by decide +kernel
theorem dX6_searchLayer_72 : decode cX6_searchLayer 72 = .ok (.aload_n 3, 1) := by decide +kernel
theorem dX6_searchLayer_73 : decode cX6_searchLayer 73 = .ok (.invokevirtual 140, 3) := by decide +kernel
theorem dX6_searchLayer_76 : decode cX6_searchLayer 76 = .ok (.iinc 4 1, 3) := by decide +kernel
theorem dX6_searchLayer_79 : decode cX6_searchLayer 79 = .ok (.goto (-40), 3) := by decide +kernel
theorem dX6_searchLayer_82 : decode cX6_searchLayer 82 = .ok (.return_, 1) := by decide +kernel
theorem dX6_tryNext_0 : decode cX6_tryNext 0 = .ok (.aload_n 0, 1) := by decide +kernel
theorem dX6_tryNext_1 : decode cX6_tryNext 1 = .ok (.iload_n 1, 1) := by decide +kernel
theorem dX6_tryNext_2 : decode cX6_tryNext 2 = .ok (.invokevirtual 96, 3) := by decide +kernel
theorem dX6_tryNext_5 : decode cX6_tryNext 5 = .ok (.invokevirtual 133, 3) := by decide +kernel
theorem dX6_tryNext_8 : decode cX6_tryNext 8 = .ok (.astore 4, 2) := by decide +kernel
theorem dX6_tryNext_10 : decode cX6_tryNext 10 = .ok (.aload_n 0, 1) := by decide +kernel
theorem dX6_tryNext_11 : decode cX6_tryNext 11 = .ok (.getfield 65, 3) := by decide +kernel
theorem dX6_tryNext_14 : decode cX6_tryNext 14 = .ok (.invokevirtual 144, 3) := by decide +kernel
theorem dX6_tryNext_17 : decode cX6_tryNext 17 = .ok (.astore 5, 2) := by decide +kernel
theorem dX6_tryNext_19 : decode cX6_tryNext 19 = .ok (.aload_n 0, 1) := by decide +kernel
theorem dX6_tryNext_20 : decode cX6_tryNext 20 = .ok (.getfield 19, 3) := by decide +kernel
theorem dX6_tryNext_23 : decode cX6_tryNext 23 = .ok (.iload_n 1, 1) := by decide +kernel
theorem dX6_tryNext_24 : decode cX6_tryNext 24 = .ok (.aaload, 1) := by decide +kernel
theorem dX6_tryNext_25 : decode cX6_tryNext 25 = .ok (.astore 6, 2) := by decide +kernel
theorem dX6_tryNext_27 : decode cX6_tryNext 27 = .ok (.aload_n 0, 1) := by decide +kernel
theorem dX6_tryNext_28 : decode cX6_tryNext 28 = .ok (.getfield 22, 3) := by decide +kernel
theorem dX6_tryNext_31 : decode cX6_tryNext 31 = .ok (.iload_n 1, 1) := by decide +kernel
theorem dX6_tryNext_32 : decode cX6_tryNext 32 = .ok (.iconst 1, 1) := by decide +kernel
theorem dX6_tryNext_33 : decode cX6_tryNext 33 = .ok (.iadd, 1) := by decide +kernel
theorem dX6_tryNext_34 : decode cX6_tryNext 34 = .ok (.aaload, 1) := by decide +kernel
theorem dX6_tryNext_35 : decode cX6_tryNext 35 = .ok (.iload_n 2, 1) := by decide +kernel
theorem dX6_tryNext_36 : decode cX6_tryNext 36 = .ok (.iaload, 1) := by decide +kernel
theorem dX6_tryNext_37 : decode cX6_tryNext 37 = .ok (.istore 7, 2) := by decide +kernel
theorem dX6_tryNext_39 : decode cX6_tryNext 39 = .ok (.aload_n 0, 1) := by decide +kernel
theorem dX6_tryNext_40 : decode cX6_tryNext 40 = .ok (.getfield 65, 3) := by decide +kernel
theorem dX6_tryNext_43 : decode cX6_tryNext 43 = .ok (.invokevirtual 147, 3) := by decide +kernel
theorem dX6_tryNext_46 : decode cX6_tryNext 46 = .ok (.aload_n 0, 1) := by decide +kernel
theorem dX6_tryNext_47 : decode cX6_tryNext 47 = .ok (.getfield 19, 3) := by decide +kernel
theorem dX6_tryNext_50 : decode cX6_tryNext 50 = .ok (.iload_n 1, 1) := by decide +kernel
theorem dX6_tryNext_51 : decode cX6_tryNext 51 = .ok (.iconst 1, 1) := by decide +kernel
theorem dX6_tryNext_52 : decode cX6_tryNext 52 = .ok (.iadd, 1) := by decide +kernel
theorem dX6_tryNext_53 : decode cX6_tryNext 53 = .ok (.aaload, 1) := by decide +kernel
theorem dX6_tryNext_54 : decode cX6_tryNext 54 = .ok (.iload_n 2, 1) := by decide +kernel
theorem dX6_tryNext_55 : decode cX6_tryNext 55 = .ok (.iaload, 1) := by decide +kernel
theorem dX6_tryNext_56 : decode cX6_tryNext 56 = .ok (.iadd, 1) := by decide +kernel
theorem dX6_tryNext_57 : decode cX6_tryNext 57 = .ok (.istore 8, 2) := by decide +kernel
theorem dX6_tryNext_59 : decode cX6_tryNext 59 = .ok (.iconst 0, 1) := by decide +kernel
theorem dX6_tryNext_60 : decode cX6_tryNext 60 = .ok (.istore 9, 2) := by decide +kernel
theorem dX6_tryNext_62 : decode cX6_tryNext 62 = .ok (.iload 9, 2) := by decide +kernel
theorem dX6_tryNext_64 : decode cX6_tryNext 64 = .ok (.aload 4, 2) := by decide +kernel
theorem dX6_tryNext_66 : decode cX6_tryNext 66 = .ok (.arraylength, 1) := by decide +kernel
theorem dX6_tryNext_67 : decode cX6_tryNext 67 = .ok (.if_icmp .ge 123, 3) := by decide +kernel
theorem dX6_tryNext_70 : decode cX6_tryNext 70 = .ok (.iload 9, 2) := by decide +kernel
theorem dX6_tryNext_72 : decode cX6_tryNext 72 = .ok (.ifCond .le 16, 3) := by decide +kernel
theorem dX6_tryNext_75 : decode cX6_tryNext 75 = .ok (.iload 8, 2) := by decide +kernel
theorem dX6_tryNext_77 : decode cX6_tryNext 77 = .ok (.aload 5, 2) := by decide +kernel
theorem dX6_tryNext_79 : decode cX6_tryNext 79 = .ok (.aload 4, 2) := by decide +kernel
theorem dX6_tryNext_81 : decode cX6_tryNext 81 = .ok (.iload 9, 2) := by decide +kernel
theorem dX6_tryNext_83 : decode cX6_tryNext 83 = .ok (.iaload, 1) := by decide +kernel
theorem dX6_tryNext_84 : decode cX6_tryNext 84 = .ok (.iaload, 1) := by decide +kernel
theorem dX6_tryNext_85 : decode cX6_tryNext 85 = .ok (.iadd, 1) := by decide +kernel
theorem dX6_tryNext_86 : decode cX6_tryNext 86 = .ok (.istore 8, 2) := by decide +kernel
theorem dX6_tryNext_88 : decode cX6_tryNext 88 = .ok (.iload 8, 2) := by decide +kernel
theorem dX6_tryNext_90 : decode cX6_tryNext 90 = .ok (.aload 6, 2) := by decide +kernel
theorem dX6_tryNext_92 : decode cX6_tryNext 92 = .ok (.iload 9, 2) := by decide +kernel
theorem dX6_tryNext_94 : decode cX6_tryNext 94 = .ok (.iaload, 1) := by decide +kernel
theorem dX6_tryNext_95 : decode cX6_tryNext 95 = .ok (.if_icmp .ge 34, 3) := by decide +kernel
theorem dX6_tryNext_98 : decode cX6_tryNext 98 = .ok (.aload 6, 2) := by decide +kernel
theorem dX6_tryNext_100 : decode cX6_tryNext 100 = .ok (.iload 9, 2) := by decide +kernel
theorem dX6_tryNext_102 : decode cX6_tryNext 102 = .ok (.iload 8, 2) := by decide +kernel
theorem dX6_tryNext_104 : decode cX6_tryNext 104 = .ok (.iastore, 1) := by decide +kernel
theorem dX6_tryNext_105 : decode cX6_tryNext 105 = .ok (.aload_n 0, 1) := by decide +kernel
theorem dX6_tryNext_106 : decode cX6_tryNext 106 = .ok (.getfield 22, 3) := by decide +kernel
theorem dX6_tryNext_109 : decode cX6_tryNext 109 = .ok (.iload_n 1, 1) := by decide +kernel
theorem dX6_tryNext_110 : decode cX6_tryNext 110 = .ok (.aaload, 1) := by decide +kernel
theorem dX6_tryNext_111 : decode cX6_tryNext 111 = .ok (.iload 9, 2) := by decide +kernel
theorem dX6_tryNext_113 : decode cX6_tryNext 113 = .ok (.iload 7, 2) := by decide +kernel
theorem dX6_tryNext_115 : decode cX6_tryNext 115 = .ok (.iastore, 1) := by decide +kernel
theorem dX6_tryNext_116 : decode cX6_tryNext 116 = .ok (.aload_n 0, 1) := by decide +kernel
theorem dX6_tryNext_117 : decode cX6_tryNext 117 = .ok (.getfield 25, 3) := by decide +kernel
theorem dX6_tryNext_120 : decode cX6_tryNext 120 = .ok (.iload_n 1, 1) := by decide +kernel
theorem dX6_tryNext_121 : decode cX6_tryNext 121 = .ok (.aaload, 1) := by decide +kernel
theorem dX6_tryNext_122 : decode cX6_tryNext 122 = .ok (.iload 9, 2) := by decide +kernel
theorem dX6_tryNext_124 : decode cX6_tryNext 124 = .ok (.iload_n 2, 1) := by decide +kernel
theorem dX6_tryNext_125 : decode cX6_tryNext 125 = .ok (.iastore, 1) := by decide +kernel
theorem dX6_tryNext_126 : decode cX6_tryNext 126 = .ok (.goto 58, 3) := by decide +kernel
theorem dX6_tryNext_129 : decode cX6_tryNext 129 = .ok (.iload 8, 2) := by decide +kernel
theorem dX6_tryNext_131 : decode cX6_tryNext 131 = .ok (.aload 6, 2) := by decide +kernel
theorem dX6_tryNext_133 : decode cX6_tryNext 133 = .ok (.iload 9, 2) := by decide +kernel
theorem dX6_tryNext_135 : decode cX6_tryNext 135 = .ok (.iaload, 1) := by decide +kernel
theorem dX6_tryNext_136 : decode cX6_tryNext 136 = .ok (.if_icmp .ne 48, 3) := by decide +kernel
theorem dX6_tryNext_139 : decode cX6_tryNext 139 = .ok (.aload_n 0, 1) := by decide +kernel
theorem dX6_tryNext_140 : decode cX6_tryNext 140 = .ok (.getfield 22, 3) := by decide +kernel
theorem dX6_tryNext_143 : decode cX6_tryNext 143 = .ok (.iload_n 1, 1) := by decide +kernel
theorem dX6_tryNext_144 : decode cX6_tryNext 144 = .ok (.aaload, 1) := by decide +kernel
theorem dX6_tryNext_145 : decode cX6_tryNext 145 = .ok (.iload 9, 2) := by decide +kernel
theorem dX6_tryNext_147 : decode cX6_tryNext 147 = .ok (.dup2, 1) := by decide +kernel
theorem dX6_tryNext_148 : decode cX6_tryNext 148 = .ok (.iaload, 1) := by decide +kernel
theorem dX6_tryNext_149 : decode cX6_tryNext 149 = .ok (.iload 7, 2) := by decide +kernel
theorem dX6_tryNext_151 : decode cX6_tryNext 151 = .ok (.iadd, 1) := by decide +kernel
theorem dX6_tryNext_152 : decode cX6_tryNext 152 = .ok (.iastore, 1) := by decide +kernel
theorem dX6_tryNext_153 : decode cX6_tryNext 153 = .ok (.aload_n 3, 1) := by decide +kernel
theorem dX6_tryNext_154 : decode cX6_tryNext 154 = .ok (.iload_n 2, 1) := by decide +kernel
theorem dX6_tryNext_155 : decode cX6_tryNext 155 = .ok (.invokevirtual 150, 3) := by decide +kernel
theorem dX6_tryNext_158 : decode cX6_tryNext 158 = .ok (.aload_n 3, 1) := by decide +kernel
theorem dX6_tryNext_159 : decode cX6_tryNext 159 = .ok (.aload_n 0, 1) := by decide +kernel
theorem dX6_tryNext_160 : decode cX6_tryNext 160 = .ok (.getfield 25, 3) := by decide +kernel
theorem dX6_tryNext_163 : decode cX6_tryNext 163 = .ok (.iload_n 1, 1) := by decide +kernel
theorem dX6_tryNext_164 : decode cX6_tryNext 164 = .ok (.aaload, 1) := by decide +kernel
theorem dX6_tryNext_165 : decode cX6_tryNext 165 = .ok (.iload 9, 2) := by decide +kernel
theorem dX6_tryNext_167 : decode cX6_tryNext 167 = .ok (.iaload, 1) := by decide +kernel
theorem dX6_tryNext_168 : decode cX6_tryNext 168 = .ok (.invokevirtual 150, 3) := by decide +kernel
theorem dX6_tryNext_171 : decode cX6_tryNext 171 = .ok (.if_icmp .ge 13, 3) := by decide +kernel
theorem dX6_tryNext_174 : decode cX6_tryNext 174 = .ok (.aload_n 0, 1) := by decide +kernel
theorem dX6_tryNext_175 : decode cX6_tryNext 175 = .ok (.getfield 25, 3) := by decide +kernel
theorem dX6_tryNext_178 : decode cX6_tryNext 178 = .ok (.iload_n 1, 1) := by decide +kernel
theorem dX6_tryNext_179 : decode cX6_tryNext 179 = .ok (.aaload, 1) := by decide +kernel
theorem dX6_tryNext_180 : decode cX6_tryNext 180 = .ok (.iload 9, 2) := by decide +kernel
theorem dX6_tryNext_182 : decode cX6_tryNext 182 = .ok (.iload_n 2, 1) := by decide +kernel
theorem dX6_tryNext_183 : decode cX6_tryNext 183 = .ok (.iastore, 1) := by decide +kernel
theorem dX6_tryNext_184 : decode cX6_tryNext 184 = .ok (.iinc 9 1, 3) := by decide +kernel
theorem dX6_tryNext_187 : decode cX6_tryNext 187 = .ok (.goto (-125), 3) := by decide +kernel
theorem dX6_tryNext_190 : decode cX6_tryNext 190 = .ok (.return_, 1) := by decide +kernel
theorem dX6_chooseFirst_0 : decode cX6_chooseFirst 0 = .ok (.aload_n 0, 1) := by decide +kernel
theorem dX6_chooseFirst_1 : decode cX6_chooseFirst 1 = .ok (.iconst 0, 1) := by decide +kernel
theorem dX6_chooseFirst_2 : decode cX6_chooseFirst 2 = .ok (.invokevirtual 96, 3) := by decide +kernel
theorem dX6_chooseFirst_5 : decode cX6_chooseFirst 5 = .ok (.astore_n 1, 1) := by decide +kernel
theorem dX6_chooseFirst_6 : decode cX6_chooseFirst 6 = .ok (.aload_n 0, 1) := by decide +kernel
theorem dX6_chooseFirst_7 : decode cX6_chooseFirst 7 = .ok (.ldc 123, 2) := by decide +kernel
theorem dX6_chooseFirst_9 : decode cX6_chooseFirst 9 = .ok (.putfield 32, 3) := by decide +kernel
theorem dX6_chooseFirst_12 : decode cX6_chooseFirst 12 = .ok (.aload_n 0, 1) := by decide +kernel
theorem dX6_chooseFirst_13 : decode cX6_chooseFirst 13 = .ok (.iconst 0, 1) := by decide +kernel
theorem dX6_chooseFirst_14 : decode cX6_chooseFirst 14 = .ok (.putfield 36, 3) := by decide +kernel
theorem dX6_chooseFirst_17 : decode cX6_chooseFirst 17 = .ok (.iconst 0, 1) := by decide +kernel
theorem dX6_chooseFirst_18 : decode cX6_chooseFirst 18 = .ok (.istore_n 2, 1) := by decide +kernel
theorem dX6_chooseFirst_19 : decode cX6_chooseFirst 19 = .ok (.iload_n 2, 1) := by decide +kernel
theorem dX6_chooseFirst_20 : decode cX6_chooseFirst 20 = .ok (.aload_n 1, 1) := by decide +kernel
theorem dX6_chooseFirst_21 : decode cX6_chooseFirst 21 = .ok (.invokevirtual 130, 3) := by decide +kernel
theorem dX6_chooseFirst_24 : decode cX6_chooseFirst 24 = .ok (.if_icmp .ge 115, 3) := by decide +kernel
theorem dX6_chooseFirst_27 : decode cX6_chooseFirst 27 = .ok (.aload_n 0, 1) := by decide +kernel
theorem dX6_chooseFirst_28 : decode cX6_chooseFirst 28 = .ok (.getfield 19, 3) := by decide +kernel
theorem dX6_chooseFirst_31 : decode cX6_chooseFirst 31 = .ok (.iconst 0, 1) := by decide +kernel
theorem dX6_chooseFirst_32 : decode cX6_chooseFirst 32 = .ok (.aaload, 1) := by decide +kernel
theorem dX6_chooseFirst_33 : decode cX6_chooseFirst 33 = .ok (.iload_n 2, 1) := by decide +kernel
theorem dX6_chooseFirst_34 : decode cX6_chooseFirst 34 = .ok (.iaload, 1) := by decide +kernel
theorem dX6_chooseFirst_35 : decode cX6_chooseFirst 35 = .ok (.aload_n 0, 1) := by decide +kernel
theorem dX6_chooseFirst_36 : decode cX6_chooseFirst 36 = .ok (.getfield 32, 3) := by decide +kernel
theorem dX6_chooseFirst_39 : decode cX6_chooseFirst 39 = .ok (.if_icmp .ge 37, 3) := by decide +kernel
theorem dX6_chooseFirst_42 : decode cX6_chooseFirst 42 = .ok (.aload_n 0, 1) := by decide +kernel
theorem dX6_chooseFirst_43 : decode cX6_chooseFirst 43 = .ok (.aload_n 0, 1) := by decide +kernel
theorem dX6_chooseFirst_44 : decode cX6_chooseFirst 44 = .ok (.getfield 19, 3) := by decide +kernel
theorem dX6_chooseFirst_47 : decode cX6_chooseFirst 47 = .ok (.iconst 0, 1) := by decide +kernel
theorem dX6_chooseFirst_48 : decode cX6_chooseFirst 48 = .ok (.aaload, 1) := by decide +kernel
theorem dX6_chooseFirst_49 : decode cX6_chooseFirst 49 = .ok (.iload_n 2, 1) := by decide +kernel
theorem dX6_chooseFirst_50 : decode cX6_chooseFirst 50 = .ok (.iaload, 1) := by decide +kernel
theorem dX6_chooseFirst_51 : decode cX6_chooseFirst 51 = .ok (.putfield 32, 3) := by decide +kernel
theorem dX6_chooseFirst_54 : decode cX6_chooseFirst 54 = .ok (.aload_n 0, 1) := by decide +kernel
theorem dX6_chooseFirst_55 : decode cX6_chooseFirst 55 = .ok (.aload_n 0, 1) := by decide +kernel
theorem dX6_chooseFirst_56 : decode cX6_chooseFirst 56 = .ok (.getfield 22, 3) := by decide +kernel
theorem dX6_chooseFirst_59 : decode cX6_chooseFirst 59 = .ok (.iconst 0, 1) := by decide +kernel
theorem dX6_chooseFirst_60 : decode cX6_chooseFirst 60 = .ok (.aaload, 1) := by decide +kernel
theorem dX6_chooseFirst_61 : decode cX6_chooseFirst 61 = .ok (.iload_n 2, 1) := by decide +kernel
theorem dX6_chooseFirst_62 : decode cX6_chooseFirst 62 = .ok (.iaload, 1) := by decide +kernel
theorem dX6_chooseFirst_63 : decode cX6_chooseFirst 63 = .ok (.putfield 36, 3) := by decide +kernel
theorem dX6_chooseFirst_66 : decode cX6_chooseFirst 66 = .ok (.aload_n 0, 1) := by decide +kernel
theorem dX6_chooseFirst_67 : decode cX6_chooseFirst 67 = .ok (.getfield 28, 3) := by decide +kernel
theorem dX6_chooseFirst_70 : decode cX6_chooseFirst 70 = .ok (.iconst 0, 1) := by decide +kernel
theorem dX6_chooseFirst_71 : decode cX6_chooseFirst 71 = .ok (.iload_n 2, 1) := by decide +kernel
theorem dX6_chooseFirst_72 : decode cX6_chooseFirst 72 = .ok (.iastore, 1) := by decide +kernel
theorem dX6_chooseFirst_73 : decode cX6_chooseFirst 73 = .ok (.goto 60, 3) := by decide +kernel
theorem dX6_chooseFirst_76 : decode cX6_chooseFirst 76 = .ok (.aload_n 0, 1) := by decide +kernel
theorem dX6_chooseFirst_77 : decode cX6_chooseFirst 77 = .ok (.getfield 19, 3) := by decide +kernel
theorem dX6_chooseFirst_80 : decode cX6_chooseFirst 80 = .ok (.iconst 0, 1) := by decide +kernel
theorem dX6_chooseFirst_81 : decode cX6_chooseFirst 81 = .ok (.aaload, 1) := by decide +kernel
theorem dX6_chooseFirst_82 : decode cX6_chooseFirst 82 = .ok (.iload_n 2, 1) := by decide +kernel
theorem dX6_chooseFirst_83 : decode cX6_chooseFirst 83 = .ok (.iaload, 1) := by decide +kernel
theorem dX6_chooseFirst_84 : decode cX6_chooseFirst 84 = .ok (.aload_n 0, 1) := by decide +kernel
theorem dX6_chooseFirst_85 : decode cX6_chooseFirst 85 = .ok (.getfield 32, 3) := by decide +kernel
theorem dX6_chooseFirst_88 : decode cX6_chooseFirst 88 = .ok (.if_icmp .ne 45, 3) := by decide +kernel
theorem dX6_chooseFirst_91 : decode cX6_chooseFirst 91 = .ok (.aload_n 0, 1) := by decide +kernel
theorem dX6_chooseFirst_92 : decode cX6_chooseFirst 92 = .ok (.dup, 1) := by decide +kernel
theorem dX6_chooseFirst_93 : decode cX6_chooseFirst 93 = .ok (.getfield 36, 3) := by decide +kernel
theorem dX6_chooseFirst_96 : decode cX6_chooseFirst 96 = .ok (.aload_n 0, 1) := by decide +kernel
theorem dX6_chooseFirst_97 : decode cX6_chooseFirst 97 = .ok (.getfield 22, 3) := by decide +kernel
theorem dX6_chooseFirst_100 : decode cX6_chooseFirst 100 = .ok (.iconst 0, 1) := by decide +kernel
theorem dX6_chooseFirst_101 : decode cX6_chooseFirst 101 = .ok (.aaload, 1) := by decide +kernel
theorem dX6_chooseFirst_102 : decode cX6_chooseFirst 102 = .ok (.iload_n 2, 1) := by decide +kernel
theorem dX6_chooseFirst_103 : decode cX6_chooseFirst 103 = .ok (.iaload, 1) := by decide +kernel
theorem dX6_chooseFirst_104 : decode cX6_chooseFirst 104 = .ok (.iadd, 1) := by decide +kernel
theorem dX6_chooseFirst_105 : decode cX6_chooseFirst 105 = .ok (.putfield 36, 3) := by decide +kernel
theorem dX6_chooseFirst_108 : decode cX6_chooseFirst 108 = .ok (.aload_n 1, 1) := by decide +kernel
theorem dX6_chooseFirst_109 : decode cX6_chooseFirst 109 = .ok (.iload_n 2, 1) := by decide +kernel
theorem dX6_chooseFirst_110 : decode cX6_chooseFirst 110 = .ok (.invokevirtual 150, 3) := by decide +kernel
theorem dX6_chooseFirst_113 : decode cX6_chooseFirst 113 = .ok (.aload_n 1, 1) := by decide +kernel
theorem dX6_chooseFirst_114 : decode cX6_chooseFirst 114 = .ok (.aload_n 0, 1) := by decide +kernel
theorem dX6_chooseFirst_115 : decode cX6_chooseFirst 115 = .ok (.getfield 28, 3) := by decide +kernel
theorem dX6_chooseFirst_118 : decode cX6_chooseFirst 118 = .ok (.iconst 0, 1) := by decide +kernel
theorem dX6_chooseFirst_119 : decode cX6_chooseFirst 119 = .ok (.iaload, 1) := by decide +kernel
theorem dX6_chooseFirst_120 : decode cX6_chooseFirst 120 = .ok (.invokevirtual 150, 3) := by decide +kernel
theorem dX6_chooseFirst_123 : decode cX6_chooseFirst 123 = .ok (.if_icmp .ge 10, 3) := by decide +kernel
theorem dX6_chooseFirst_126 : decode cX6_chooseFirst 126 = .ok (.aload_n 0, 1) := by decide +kernel
theorem dX6_chooseFirst_127 : decode cX6_chooseFirst 127 = .ok (.getfield 28, 3) := by decide +kernel
theorem dX6_chooseFirst_130 : decode cX6_chooseFirst 130 = .ok (.iconst 0, 1) := by decide +kernel
theorem dX6_chooseFirst_131 : decode cX6_chooseFirst 131 = .ok (.iload_n 2, 1) := by decide +kernel
theorem dX6_chooseFirst_132 : decode cX6_chooseFirst 132 = .ok (.iastore, 1) := by decide +kernel
theorem dX6_chooseFirst_133 : decode cX6_chooseFirst 133 = .ok (.iinc 2 1, 3) := by decide +kernel
theorem dX6_chooseFirst_136 : decode cX6_chooseFirst 136 = .ok (.goto (-117), 3) := by decide +kernel
theorem dX6_chooseFirst_139 : decode cX6_chooseFirst 139 = .ok (.return_, 1) := by decide +kernel
theorem dX6_countParts_0 : decode cX6_countParts 0 = .ok (.aload_n 0, 1) := by decide +kernel
theorem dX6_countParts_1 : decode cX6_countParts 1 = .ok (.iconst 0, 1) := by decide +kernel
theorem dX6_countParts_2 : decode cX6_countParts 2 = .ok (.putfield 39, 3) := by decide +kernel
theorem dX6_countParts_5 : decode cX6_countParts 5 = .ok (.aload_n 0, 1) := by decide +kernel
theorem dX6_countParts_6 : decode cX6_countParts 6 = .ok (.iconst 0, 1) := by decide +kernel
theorem dX6_countParts_7 : decode cX6_countParts 7 = .ok (.putfield 42, 3) := by decide +kernel
theorem dX6_countParts_10 : decode cX6_countParts 10 = .ok (.aload_n 0, 1) := by decide +kernel
theorem dX6_countParts_11 : decode cX6_countParts 11 = .ok (.iconst 0, 1) := by decide +kernel
theorem dX6_countParts_12 : decode cX6_countParts 12 = .ok (.putfield 45, 3) := by decide +kernel
theorem dX6_countParts_15 : decode cX6_countParts 15 = .ok (.iconst 0, 1) := by decide +kernel
theorem dX6_countParts_16 : decode cX6_countParts 16 = .ok (.istore_n 2, 1) := by decide +kernel
theorem dX6_countParts_17 : decode cX6_countParts 17 = .ok (.iload_n 2, 1) := by decide +kernel
theorem dX6_countParts_18 : decode cX6_countParts 18 = .ok (.iload_n 1, 1) := by decide +kernel
theorem dX6_countParts_19 : decode cX6_countParts 19 = .ok (.if_icmp .ge 98, 3) := by decide +kernel
theorem dX6_countParts_22 : decode cX6_countParts 22 = .ok (.aload_n 0, 1) := by decide +kernel
theorem dX6_countParts_23 : decode cX6_countParts 23 = .ok (.getfield 65, 3) := by decide +kernel
theorem dX6_countParts_26 : decode cX6_countParts 26 = .ok (.iload_n 2, 1) := by decide +kernel
theorem dX6_countParts_27 : decode cX6_countParts 27 = .ok (.invokevirtual 115, 3) := by decide +kernel
theorem dX6_countParts_30 : decode cX6_countParts 30 = .ok (.iconst 0, 1) := by decide +kernel
theorem dX6_countParts_31 : decode cX6_countParts 31 = .ok (.istore_n 3, 1) := by decide +kernel
theorem dX6_countParts_32 : decode cX6_countParts 32 = .ok (.iload_n 3, 1) := by decide +kernel
theorem dX6_countParts_33 : decode cX6_countParts 33 = .ok (.aload_n 0, 1) := by decide +kernel
theorem dX6_countParts_34 : decode cX6_countParts 34 = .ok (.getfield 52, 3) := by decide +kernel
theorem dX6_countParts_37 : decode cX6_countParts 37 = .ok (.iload_n 2, 1) := by decide +kernel
theorem dX6_countParts_38 : decode cX6_countParts 38 = .ok (.invokevirtual 90, 3) := by decide +kernel
theorem dX6_countParts_41 : decode cX6_countParts 41 = .ok (.if_icmp .ge 70, 3) := by decide +kernel
theorem dX6_countParts_44 : decode cX6_countParts 44 = .ok (.iload_n 3, 1) := by decide +kernel
theorem dX6_countParts_45 : decode cX6_countParts 45 = .ok (.iconst 1, 1) := by decide +kernel
theorem dX6_countParts_46 : decode cX6_countParts 46 = .ok (.iadd, 1) := by decide +kernel
theorem dX6_countParts_47 : decode cX6_countParts 47 = .ok (.istore 4, 2) := by decide +kernel
theorem dX6_countParts_49 : decode cX6_countParts 49 = .ok (.iload 4, 2) := by decide +kernel
theorem dX6_countParts_51 : decode cX6_countParts 51 = .ok (.aload_n 0, 1) := by decide +kernel
theorem dX6_countParts_52 : decode cX6_countParts 52 = .ok (.getfield 52, 3) := by decide +kernel
theorem dX6_countParts_55 : decode cX6_countParts 55 = .ok (.iload_n 2, 1) := by decide +kernel
theorem dX6_countParts_56 : decode cX6_countParts 56 = .ok (.invokevirtual 90, 3) := by decide +kernel
theorem dX6_countParts_59 : decode cX6_countParts 59 = .ok (.if_icmp .ge 46, 3) := by decide +kernel
theorem dX6_countParts_62 : decode cX6_countParts 62 = .ok (.aload_n 0, 1) := by decide +kernel
theorem dX6_countParts_63 : decode cX6_countParts 63 = .ok (.dup, 1) := by decide +kernel
theorem dX6_countParts_64 : decode cX6_countParts 64 = .ok (.getfield 45, 3) := by decide +kernel
theorem dX6_countParts_67 : decode cX6_countParts 67 = .ok (.aload_n 0, 1) := by decide +kernel
theorem dX6_countParts_68 : decode cX6_countParts 68 = .ok (.getfield 56, 3) := by decide +kernel
theorem dX6_countParts_71 : decode cX6_countParts 71 = .ok (.aload_n 0, 1) := by decide +kernel
theorem dX6_countParts_72 : decode cX6_countParts 72 = .ok (.iload_n 2, 1) := by decide +kernel
theorem dX6_countParts_73 : decode cX6_countParts 73 = .ok (.iload_n 3, 1) := by decide +kernel
theorem dX6_countParts_74 : decode cX6_countParts 74 = .ok (.invokevirtual 107, 3) := by decide +kernel
theorem dX6_countParts_77 : decode cX6_countParts 77 = .ok (.aload_n 0, 1) := by decide +kernel
theorem dX6_countParts_78 : decode cX6_countParts 78 = .ok (.iload_n 2, 1) := by decide +kernel
theorem dX6_countParts_79 : decode cX6_countParts 79 = .ok (.iload 4, 2) := by decide +kernel
theorem dX6_countParts_81 : decode cX6_countParts 81 = .ok (.invokevirtual 107, 3) := by decide +kernel
theorem dX6_countParts_84 : decode cX6_countParts 84 = .ok (.invokevirtual 153, 3) := by decide +kernel
theorem dX6_countParts_87 : decode cX6_countParts 87 = .ok (.iadd, 1) := by decide +kernel
theorem dX6_countParts_88 : decode cX6_countParts 88 = .ok (.putfield 45, 3) := by decide +kernel
theorem dX6_countParts_91 : decode cX6_countParts 91 = .ok (.aload_n 0, 1) := by decide +kernel
theorem dX6_countParts_92 : decode cX6_countParts 92 = .ok (.iload_n 2, 1) := by decide +kernel
theorem dX6_countParts_93 : decode cX6_countParts 93 = .ok (.iload_n 3, 1) := by decide +kernel
theorem dX6_countParts_94 : decode cX6_countParts 94 = .ok (.iload 4, 2) := by decide +kernel
theorem dX6_countParts_96 : decode cX6_countParts 96 = .ok (.invokevirtual 158, 3) := by decide +kernel
theorem dX6_countParts_99 : decode cX6_countParts 99 = .ok (.iinc 4 1, 3) := by decide +kernel
theorem dX6_countParts_102 : decode cX6_countParts 102 = .ok (.goto (-53), 3) := by decide +kernel
theorem dX6_countParts_105 : decode cX6_countParts 105 = .ok (.iinc 3 1, 3) := by decide +kernel
theorem dX6_countParts_108 : decode cX6_countParts 108 = .ok (.goto (-76), 3) := by decide +kernel
theorem dX6_countParts_111 : decode cX6_countParts 111 = .ok (.iinc 2 1, 3) := by decide +kernel
theorem dX6_countParts_114 : decode cX6_countParts 114 = .ok (.goto (-97), 3) := by decide +kernel
theorem dX6_countParts_117 : decode cX6_countParts 117 = .ok (.return_, 1) := by decide +kernel
theorem dX6_countCrosses_0 : decode cX6_countCrosses 0 = .ok (.aload_n 0, 1) := by decide +kernel
theorem dX6_countCrosses_1 : decode cX6_countCrosses 1 = .ok (.iload_n 1, 1) := by decide +kernel
theorem dX6_countCrosses_2 : decode cX6_countCrosses 2 = .ok (.invokevirtual 96, 3) := by decide +kernel
theorem dX6_countCrosses_5 : decode cX6_countCrosses 5 = .ok (.aload_n 0, 1) := by decide +kernel
theorem dX6_countCrosses_6 : decode cX6_countCrosses 6 = .ok (.getfield 28, 3) := by decide +kernel
theorem dX6_countCrosses_9 : decode cX6_countCrosses 9 = .ok (.iload_n 1, 1) := by decide +kernel
theorem dX6_countCrosses_10 : decode cX6_countCrosses 10 = .ok (.iaload, 1) := by decide +kernel
theorem dX6_countCrosses_11 : decode cX6_countCrosses 11 = .ok (.iload_n 2, 1) := by decide +kernel
theorem dX6_countCrosses_12 : decode cX6_countCrosses 12 = .ok (.invokevirtual 100, 3) := by decide +kernel
theorem dX6_countCrosses_15 : decode cX6_countCrosses 15 = .ok (.istore 4, 2) := by decide +kernel
theorem dX6_countCrosses_17 : decode cX6_countCrosses 17 = .ok (.aload_n 0, 1) := by decide +kernel
theorem dX6_countCrosses_18 : decode cX6_countCrosses 18 = .ok (.iload_n 1, 1) := by decide +kernel
theorem dX6_countCrosses_19 : decode cX6_countCrosses 19 = .ok (.invokevirtual 96, 3) := by decide +kernel
theorem dX6_countCrosses_22 : decode cX6_countCrosses 22 = .ok (.aload_n 0, 1) := by decide +kernel
theorem dX6_countCrosses_23 : decode cX6_countCrosses 23 = .ok (.getfield 28, 3) := by decide +kernel
theorem dX6_countCrosses_26 : decode cX6_countCrosses 26 = .ok (.iload_n 1, 1) := by decide +kernel
theorem dX6_countCrosses_27 : decode cX6_countCrosses 27 = .ok (.iaload, 1) := by decide +kernel
theorem dX6_countCrosses_28 : decode cX6_countCrosses 28 = .ok (.iload_n 3, 1) := by decide +kernel
theorem dX6_countCrosses_29 : decode cX6_countCrosses 29 = .ok (.invokevirtual 100, 3) := by decide +kernel
theorem dX6_countCrosses_32 : decode cX6_countCrosses 32 = .ok (.istore 5, 2) := by decide +kernel
theorem dX6_countCrosses_34 : decode cX6_countCrosses 34 = .ok (.aload_n 0, 1) := by decide +kernel
theorem dX6_countCrosses_35 : decode cX6_countCrosses 35 = .ok (.iload_n 1, 1) := by decide +kernel
theorem dX6_countCrosses_36 : decode cX6_countCrosses 36 = .ok (.iconst 1, 1) := by decide +kernel
theorem dX6_countCrosses_37 : decode cX6_countCrosses 37 = .ok (.iadd, 1) := by decide +kernel
theorem dX6_countCrosses_38 : decode cX6_countCrosses 38 = .ok (.invokevirtual 96, 3) := by decide +kernel
theorem dX6_countCrosses_41 : decode cX6_countCrosses 41 = .ok (.astore 6, 2) := by decide +kernel
theorem dX6_countCrosses_43 : decode cX6_countCrosses 43 = .ok (.iconst 0, 1) := by decide +kernel
theorem dX6_countCrosses_44 : decode cX6_countCrosses 44 = .ok (.istore 7, 2) := by decide +kernel
theorem dX6_countCrosses_46 : decode cX6_countCrosses 46 = .ok (.iload 7, 2) := by decide +kernel
theorem dX6_countCrosses_48 : decode cX6_countCrosses 48 = .ok (.aload_n 0, 1) := by decide +kernel
theorem dX6_countCrosses_49 : decode cX6_countCrosses 49 = .ok (.getfield 52, 3) := by decide +kernel
theorem dX6_countCrosses_52 : decode cX6_countCrosses 52 = .ok (.iload_n 1, 1) := by decide +kernel
theorem dX6_countCrosses_53 : decode cX6_countCrosses 53 = .ok (.iconst 1, 1) := by decide +kernel
theorem dX6_countCrosses_54 : decode cX6_countCrosses 54 = .ok (.iadd, 1) := by decide +kernel
theorem dX6_countCrosses_55 : decode cX6_countCrosses 55 = .ok (.invokevirtual 90, 3) := by decide +kernel
theorem dX6_countCrosses_58 : decode cX6_countCrosses 58 = .ok (.if_icmp .ge 117, 3) := by decide +kernel
theorem dX6_countCrosses_61 : decode cX6_countCrosses 61 = .ok (.iload 7, 2) := by decide +kernel
theorem dX6_countCrosses_63 : decode cX6_countCrosses 63 = .ok (.iconst 1, 1) := by decide +kernel
theorem dX6_countCrosses_64 : decode cX6_countCrosses 64 = .ok (.iadd, 1) := by decide +kernel
theorem dX6_countCrosses_65 : decode cX6_countCrosses 65 = .ok (.istore 8, 2) := by decide +kernel
theorem dX6_countCrosses_67 : decode cX6_countCrosses 67 = .ok (.iload 8, 2) := by decide +kernel
theorem dX6_countCrosses_69 : decode cX6_countCrosses 69 = .ok (.aload_n 0, 1) := by decide +kernel
theorem dX6_countCrosses_70 : decode cX6_countCrosses 70 = .ok (.getfield 52, 3) := by decide +kernel
theorem dX6_countCrosses_73 : decode cX6_countCrosses 73 = .ok (.iload_n 1, 1) := by decide +kernel
theorem dX6_countCrosses_74 : decode cX6_countCrosses 74 = .ok (.iconst 1, 1) := by decide +kernel
theorem dX6_countCrosses_75 : decode cX6_countCrosses 75 = .ok (.iadd, 1) := by decide +kernel
theorem dX6_countCrosses_76 : decode cX6_countCrosses 76 = .ok (.invokevirtual 90, 3) := by decide +kernel
theorem dX6_countCrosses_79 : decode cX6_countCrosses 79 = .ok (.if_icmp .ge 90, 3) := by decide +kernel
theorem dX6_countCrosses_82 : decode cX6_countCrosses 82 = .ok (.aload 6, 2) := by decide +kernel
theorem dX6_countCrosses_84 : decode cX6_countCrosses 84 = .ok (.aload_n 0, 1) := by decide +kernel
theorem dX6_countCrosses_85 : decode cX6_countCrosses 85 = .ok (.getfield 28, 3) := by decide +kernel
theorem dX6_countCrosses_88 : decode cX6_countCrosses 88 = .ok (.iload_n 1, 1) := by decide +kernel
theorem dX6_countCrosses_89 : decode cX6_countCrosses 89 = .ok (.iconst 1, 1) := by decide +kernel
theorem dX6_countCrosses_90 : decode cX6_countCrosses 90 = .ok (.iadd, 1) := by decide +kernel
theorem dX6_countCrosses_91 : decode cX6_countCrosses 91 = .ok (.iaload, 1) := by decide +kernel
theorem dX6_countCrosses_92 : decode cX6_countCrosses 92 = .ok (.iload 7, 2) := by decide +kernel
theorem dX6_countCrosses_94 : decode cX6_countCrosses 94 = .ok (.invokevirtual 100, 3) := by decide +kernel
theorem dX6_countCrosses_97 : decode cX6_countCrosses 97 = .ok (.istore 9, 2) := by decide +kernel
theorem dX6_countCrosses_99 : decode cX6_countCrosses 99 = .ok (.aload 6, 2) := by decide +kernel
theorem dX6_countCrosses_101 : decode cX6_countCrosses 101 = .ok (.aload_n 0, 1) := by decide +kernel
theorem dX6_countCrosses_102 : decode cX6_countCrosses 102 = .ok (.getfield 28, 3) := by decide +kernel
theorem dX6_countCrosses_105 : decode cX6_countCrosses 105 = .ok (.iload_n 1, 1) := by decide +kernel
theorem dX6_countCrosses_106 : decode cX6_countCrosses 106 = .ok (.iconst 1, 1) := by decide +kernel
theorem dX6_countCrosses_107 : decode cX6_countCrosses 107 = .ok (.iadd, 1) := by decide +kernel
theorem dX6_countCrosses_108 : decode cX6_countCrosses 108 = .ok (.iaload, 1) := by decide +kernel
theorem dX6_countCrosses_109 : decode cX6_countCrosses 109 = .ok (.iload 8, 2) := by decide +kernel
theorem dX6_countCrosses_111 : decode cX6_countCrosses 111 = .ok (.invokevirtual 100, 3) := by decide +kernel
theorem dX6_countCrosses_114 : decode cX6_countCrosses 114 = .ok (.istore 10, 2) := by decide +kernel
theorem dX6_countCrosses_116 : decode cX6_countCrosses 116 = .ok (.aload_n 0, 1) := by decide +kernel
theorem dX6_countCrosses_117 : decode cX6_countCrosses 117 = .ok (.getfield 65, 3) := by decide +kernel
theorem dX6_countCrosses_120 : decode cX6_countCrosses 120 = .ok (.iload 4, 2) := by decide +kernel
theorem dX6_countCrosses_122 : decode cX6_countCrosses 122 = .ok (.iload 5, 2) := by decide +kernel
theorem dX6_countCrosses_124 : decode cX6_countCrosses 124 = .ok (.iload 9, 2) := by decide +kernel
theorem dX6_countCrosses_126 : decode cX6_countCrosses 126 = .ok (.iload 10, 2) := by decide +kernel
theorem dX6_countCrosses_128 : decode cX6_countCrosses 128 = .ok (.invokevirtual 162, 3) := by decide +kernel
theorem dX6_countCrosses_131 : decode cX6_countCrosses 131 = .ok (.istore 11, 2) := by decide +kernel
theorem dX6_countCrosses_133 : decode cX6_countCrosses 133 = .ok (.aload_n 0, 1) := by decide +kernel
theorem dX6_countCrosses_134 : decode cX6_countCrosses 134 = .ok (.dup, 1) := by decide +kernel
theorem dX6_countCrosses_135 : decode cX6_countCrosses 135 = .ok (.getfield 39, 3) := by decide +kernel
theorem dX6_countCrosses_138 : decode cX6_countCrosses 138 = .ok (.iload 11, 2) := by decide +kernel
theorem dX6_countCrosses_140 : decode cX6_countCrosses 140 = .ok (.iadd, 1) := by decide +kernel
theorem dX6_countCrosses_141 : decode cX6_countCrosses 141 = .ok (.putfield 39, 3) := by decide +kernel
theorem dX6_countCrosses_144 : decode cX6_countCrosses 144 = .ok (.aload_n 0, 1) := by decide +kernel
theorem dX6_countCrosses_145 : decode cX6_countCrosses 145 = .ok (.dup, 1) := by decide +kernel
theorem dX6_countCrosses_146 : decode cX6_countCrosses 146 = .ok (.getfield 42, 3) := by decide +kernel
theorem dX6_countCrosses_149 : decode cX6_countCrosses 149 = .ok (.iload 11, 2) := by decide +kernel
theorem dX6_countCrosses_151 : decode cX6_countCrosses 151 = .ok (.ifCond .le 7, 3) := by decide +kernel
theorem dX6_countCrosses_154 : decode cX6_countCrosses 154 = .ok (.iconst 1, 1) := by decide +kernel
theorem dX6_countCrosses_155 : decode cX6_countCrosses 155 = .ok (.goto 4, 3) := by decide +kernel
theorem dX6_countCrosses_158 : decode cX6_countCrosses 158 = .ok (.iconst 0, 1) := by decide +kernel
theorem dX6_countCrosses_159 : decode cX6_countCrosses 159 = .ok (.iadd, 1) := by decide +kernel
theorem dX6_countCrosses_160 : decode cX6_countCrosses 160 = .ok (.putfield 42, 3) := by decide +kernel
theorem dX6_countCrosses_163 : decode cX6_countCrosses 163 = .ok (.iinc 8 1, 3) := by decide +kernel
theorem dX6_countCrosses_166 : decode cX6_countCrosses 166 = .ok (.goto (-99), 3) := by decide +kernel
theorem dX6_countCrosses_169 : decode cX6_countCrosses 169 = .ok (.iinc 7 1, 3) := by decide +kernel
theorem dX6_countCrosses_172 : decode cX6_countCrosses 172 = .ok (.goto (-126), 3) := by decide +kernel
theorem dX6_countCrosses_175 : decode cX6_countCrosses 175 = .ok (.return_, 1) := by decide +kernel
theorem dX7_init_0 : decode cX7_init 0 = .ok (.aload_n 0, 1) := by decide +kernel
theorem dX7_init_1 : decode cX7_init 1 = .ok (.invokespecial 3, 3) := by decide +kernel
theorem dX7_init_4 : decode cX7_init 4 = .ok (.aload_n 0, 1) := by decide +kernel
theorem dX7_init_5 : decode cX7_init 5 = .ok (.bipush 10, 2) := by decide +kernel
theorem dX7_init_7 : decode cX7_init 7 = .ok (.bipush 26, 2) := by decide +kernel
theorem dX7_init_9 : decode cX7_init 9 = .ok (.multianewarray 9 2, 4) := by decide +kernel
theorem dX7_init_13 : decode cX7_init 13 = .ok (.putfield 11, 3) := by decide +kernel
theorem dX7_init_16 : decode cX7_init 16 = .ok (.aload_n 0, 1) := by decide +kernel
theorem dX7_init_17 : decode cX7_init 17 = .ok (.bipush 11, 2) := by decide +kernel
theorem dX7_init_19 : decode cX7_init 19 = .ok (.newarray .int, 2) := by decide +kernel
theorem dX7_init_21 : decode cX7_init 21 = .ok (.putfield 16, 3) := by decide +kernel
theorem dX7_init_24 : decode cX7_init 24 = .ok (.aload_n 0, 1) := by decide +kernel
theorem dX7_init_25 : decode cX7_init 25 = .ok (.aload_n 1, 1) := by decide +kernel
theorem dX7_init_26 : decode cX7_init 26 = .ok (.putfield 20, 3) := by decide +kernel
theorem dX7_init_29 : decode cX7_init 29 = .ok (.return_, 1) := by decide +kernel
theorem dX7_fill_0 : decode cX7_fill 0 = .ok (.aload_n 0, 1) := by decide +kernel
theorem dX7_fill_1 : decode cX7_fill 1 = .ok (.getfield 16, 3) := by decide +kernel
theorem dX7_fill_4 : decode cX7_fill 4 = .ok (.iconst 0, 1) := by decide +kernel
theorem dX7_fill_5 : decode cX7_fill 5 = .ok (.invokestatic 24, 3) := by decide +kernel
theorem dX7_fill_8 : decode cX7_fill 8 = .ok (.iconst 0, 1) := by decide +kernel
theorem dX7_fill_9 : decode cX7_fill 9 = .ok (.istore_n 1, 1) := by decide +kernel
theorem dX7_fill_10 : decode cX7_fill 10 = .ok (.iload_n 1, 1) := by decide +kernel
theorem dX7_fill_11 : decode cX7_fill 11 = .ok (.bipush 10, 2) := by decide +kernel
theorem dX7_fill_13 : decode cX7_fill 13 = .ok (.if_icmp .ge 34, 3) := by decide +kernel
theorem dX7_fill_16 : decode cX7_fill 16 = .ok (.aload_n 0, 1) := by decide +kernel
theorem dX7_fill_17 : decode cX7_fill 17 = .ok (.getfield 20, 3) := by decide +kernel
theorem dX7_fill_20 : decode cX7_fill 20 = .ok (.iload_n 1, 1) := by decide +kernel
theorem dX7_fill_21 : decode cX7_fill 21 = .ok (.invokevirtual 30, 3) := by decide +kernel
theorem dX7_fill_24 : decode cX7_fill 24 = .ok (.iconst (-1), 1) := by decide +kernel
theorem dX7_fill_25 : decode cX7_fill 25 = .ok (.if_icmp .eq 16, 3) := by decide +kernel
theorem dX7_fill_28 : decode cX7_fill 28 = .ok (.aload_n 0, 1) := by decide +kernel
theorem dX7_fill_29 : decode cX7_fill 29 = .ok (.aload_n 0, 1) := by decide +kernel
theorem dX7_fill_30 : decode cX7_fill 30 = .ok (.getfield 20, 3) := by decide +kernel
theorem dX7_fill_33 : decode cX7_fill 33 = .ok (.iload_n 1, 1) := by decide +kernel
theorem dX7_fill_34 : decode cX7_fill 34 = .ok (.invokevirtual 30, 3) := by decide +kernel
theorem dX7_fill_37 : decode cX7_fill 37 = .ok (.iload_n 1, 1) := by decide +kernel
theorem dX7_fill_38 : decode cX7_fill 38 = .ok (.invokevirtual 36, 3) := by decide +kernel
theorem dX7_fill_41 : decode cX7_fill 41 = .ok (.iinc 1 1, 3) := by decide +kernel
theorem dX7_fill_44 : decode cX7_fill 44 = .ok (.goto (-34), 3) := by decide +kernel
theorem dX7_fill_47 : decode cX7_fill 47 = .ok (.iconst 0, 1) := by decide +kernel
theorem dX7_fill_48 : decode cX7_fill 48 = .ok (.istore_n 1, 1) := by decide +kernel
theorem dX7_fill_49 : decode cX7_fill 49 = .ok (.iload_n 1, 1) := by decide +kernel
theorem dX7_fill_50 : decode cX7_fill 50 = .ok (.bipush 10, 2) := by decide +kernel
theorem dX7_fill_52 : decode cX7_fill 52 = .ok (.if_icmp .ge 41, 3) := by decide +kernel
theorem dX7_fill_55 : decode cX7_fill 55 = .ok (.iconst 0, 1) := by decide +kernel
theorem dX7_fill_56 : decode cX7_fill 56 = .ok (.istore_n 2, 1) := by decide +kernel
theorem dX7_fill_57 : decode cX7_fill 57 = .ok (.iload_n 2, 1) := by decide +kernel
theorem dX7_fill_58 : decode cX7_fill 58 = .ok (.bipush 10, 2) := by decide +kernel
theorem dX7_fill_60 : decode cX7_fill 60 = .ok (.if_icmp .ge 27, 3) := by decide +kernel
theorem dX7_fill_63 : decode cX7_fill 63 = .ok (.aload_n 0, 1) := by decide +kernel
theorem dX7_fill_64 : decode cX7_fill 64 = .ok (.getfield 20, 3) := by decide +kernel
theorem dX7_fill_67 : decode cX7_fill 67 = .ok (.iload_n 1, 1) := by decide +kernel
theorem dX7_fill_68 : decode cX7_fill 68 = .ok (.iload_n 2, 1) := by decide +kernel
theorem dX7_fill_69 : decode cX7_fill 69 = .ok (.invokevirtual 40, 3) := by decide +kernel
theorem dX7_fill_72 : decode cX7_fill 72 = .ok (.ifCond .le 9, 3) := by decide +kernel
theorem dX7_fill_75 : decode cX7_fill 75 = .ok (.aload_n 0, 1) := by decide +kernel
theorem dX7_fill_76 : decode cX7_fill 76 = .ok (.iload_n 1, 1) := by decide +kernel
theorem dX7_fill_77 : decode cX7_fill 77 = .ok (.iload_n 2, 1) := by decide +kernel
theorem dX7_fill_78 : decode cX7_fill 78 = .ok (.invokevirtual 44, 3) := by decide +kernel
theorem dX7_fill_81 : decode cX7_fill 81 = .ok (.iinc 2 1, 3) := by decide +kernel
theorem dX7_fill_84 : decode cX7_fill 84 = .ok (.goto (-27), 3) := by decide +kernel
theorem dX7_fill_87 : decode cX7_fill 87 = .ok (.iinc 1 1, 3) := by decide +kernel
theorem dX7_fill_90 : decode cX7_fill 90 = .ok (.goto (-41), 3) := by decide +kernel
theorem dX7_fill_93 : decode cX7_fill 93 = .ok (.return_, 1) := by decide +kernel
theorem dX7_fits_0 : decode cX7_fits 0 = .ok (.aload_n 0, 1) := by decide +kernel
theorem dX7_fits_1 : decode cX7_fits 1 = .ok (.getfield 16, 3) := by decide +kernel
theorem dX7_fits_4 : decode cX7_fits 4 = .ok (.astore_n 1, 1) := by decide +kernel
theorem dX7_fits_5 : decode cX7_fits 5 = .ok (.aload_n 1, 1) := by decide +kernel
theorem dX7_fits_6 : decode cX7_fits 6 = .ok (.arraylength, 1) := by decide +kernel
theorem dX7_fits_7 : decode cX7_fits 7 = .ok (.istore_n 2, 1) := by decide +kernel
theorem dX7_fits_8 : decode cX7_fits 8 = .ok (.iconst 0, 1) := by decide +kernel
theorem dX7_fits_9 : decode cX7_fits 9 = .ok (.istore_n 3, 1) := by decide +kernel
theorem dX7_fits_10 : decode cX7_fits 10 = .ok (.iload_n 3, 1) := by decide +kernel
theorem dX7_fits_11 : decode cX7_fits 11 = .ok (.iload_n 2, 1) := by decide +kernel
theorem dX7_fits_12 : decode cX7_fits 12 = .ok (.if_icmp .ge 22, 3) := by decide +kernel
theorem dX7_fits_15 : decode cX7_fits 15 = .ok (.aload_n 1, 1) := by decide +kernel
theorem dX7_fits_16 : decode cX7_fits 16 = .ok (.iload_n 3, 1) := by decide +kernel
theorem dX7_fits_17 : decode cX7_fits 17 = .ok (.iaload, 1) := by decide +kernel
theorem dX7_fits_18 : decode cX7_fits 18 = .ok (.istore 4, 2) := by decide +kernel
theorem dX7_fits_20 : decode cX7_fits 20 = .ok (.iload 4, 2) := by decide +kernel
theorem dX7_fits_22 : decode cX7_fits 22 = .ok (.iconst 5, 1) := by decide +kernel
theorem dX7_fits_23 : decode cX7_fits 23 = .ok (.if_icmp .le 5, 3) := by decide +kernel
theorem dX7_fits_26 : decode cX7_fits 26 = .ok (.iconst 0, 1) := by decide +kernel
theorem dX7_fits_27 : decode cX7_fits 27 = .ok (.ireturn, 1) := by decide +kernel
theorem dX7_fits_28 : decode cX7_fits 28 = .ok (.iinc 3 1, 3) := by decide +kernel
theorem dX7_fits_31 : decode cX7_fits 31 = .ok (.goto (-21), 3) := by decide +kernel
theorem dX7_fits_34 : decode cX7_fits 34 = .ok (.iconst 1, 1) := by decide +kernel
theorem dX7_fits_35 : decode cX7_fits 35 = .ok (.ireturn, 1) := by decide +kernel
theorem dX7_countIn_0 : decode cX7_countIn 0 = .ok (.aload_n 0, 1) := by decide +kernel
theorem dX7_countIn_1 : decode cX7_countIn 1 = .ok (.getfield 16, 3) := by decide +kernel
theorem dX7_countIn_4 : decode cX7_countIn 4 = .ok (.iload_n 1, 1) := by decide +kernel
theorem dX7_countIn_5 : decode cX7_countIn 5 = .ok (.iaload, 1) := by decide +kernel
theorem dX7_countIn_6 : decode cX7_countIn 6 = .ok (.ireturn, 1) := by decide +kernel
theorem dX7_numberAt_0 : decode cX7_numberAt 0 = .ok (.aload_n 0, 1) := by decide +kernel
theorem dX7_numberAt_1 : decode cX7_numberAt 1 = .ok (.getfield 11, 3) := by decide +kernel
theorem dX7_numberAt_4 : decode cX7_numberAt 4 = .ok (.iload_n 1, 1) := by decide +kernel
theorem dX7_numberAt_5 : decode cX7_numberAt 5 = .ok (.aaload, 1) := by decide +kernel
theorem dX7_numberAt_6 : decode cX7_numberAt 6 = .ok (.iload_n 2, 1) := by decide +kernel
theorem dX7_numberAt_7 : decode cX7_numberAt 7 = .ok (.iaload, 1) := by decide +kernel
theorem dX7_numberAt_8 : decode cX7_numberAt 8 = .ok (.ireturn, 1) := by decide +kernel
theorem dX7_indexOf_0 : decode cX7_indexOf 0 = .ok (.iconst 0, 1) := by decide +kernel
theorem dX7_indexOf_1 : decode cX7_indexOf 1 = .ok (.istore_n 3, 1) := by decide +kernel
theorem dX7_indexOf_2 : decode cX7_indexOf 2 = .ok (.iload_n 3, 1) := by decide +kernel
theorem dX7_indexOf_3 : decode cX7_indexOf 3 = .ok (.aload_n 0, 1) := by decide +kernel
theorem dX7_indexOf_4 : decode cX7_indexOf 4 = .ok (.getfield 16, 3) := by decide +kernel
theorem dX7_indexOf_7 : decode cX7_indexOf 7 = .ok (.iload_n 1, 1) := by decide +kernel
theorem dX7_indexOf_8 : decode cX7_indexOf 8 = .ok (.iaload, 1) := by decide +kernel
theorem dX7_indexOf_9 : decode cX7_indexOf 9 = .ok (.if_icmp .ge 23, 3) := by decide +kernel
theorem dX7_indexOf_12 : decode cX7_indexOf 12 = .ok (.aload_n 0, 1) := by decide +kernel
theorem dX7_indexOf_13 : decode cX7_indexOf 13 = .ok (.getfield 11, 3) := by decide +kernel
theorem dX7_indexOf_16 : decode cX7_indexOf 16 = .ok (.iload_n 1, 1) := by decide +kernel
theorem dX7_indexOf_17 : decode cX7_indexOf 17 = .ok (.aaload, 1) := by decide +kernel
theorem dX7_indexOf_18 : decode cX7_indexOf 18 = .ok (.iload_n 3, 1) := by decide +kernel
theorem dX7_indexOf_19 : decode cX7_indexOf 19 = .ok (.iaload, 1) := by decide +kernel
theorem dX7_indexOf_20 : decode cX7_indexOf 20 = .ok (.iload_n 2, 1) := by decide +kernel
theorem dX7_indexOf_21 : decode cX7_indexOf 21 = .ok (.if_icmp .ne 5, 3) := by decide +kernel
theorem dX7_indexOf_24 : decode cX7_indexOf 24 = .ok (.iload_n 3, 1) := by decide +kernel
theorem dX7_indexOf_25 : decode cX7_indexOf 25 = .ok (.ireturn, 1) := by decide +kernel
theorem dX7_indexOf_26 : decode cX7_indexOf 26 = .ok (.iinc 3 1, 3) := by decide +kernel
theorem dX7_indexOf_29 : decode cX7_indexOf 29 = .ok (.goto (-27), 3) := by decide +kernel
theorem dX7_indexOf_32 : decode cX7_indexOf 32 = .ok (.iconst (-1), 1) := by decide +kernel
theorem dX7_indexOf_33 : decode cX7_indexOf 33 = .ok (.ireturn, 1) := by decide +kernel
theorem dX7_addBeads_0 : decode cX7_addBeads 0 = .ok (.aload_n 0, 1) := by decide +kernel
theorem dX7_addBeads_1 : decode cX7_addBeads 1 = .ok (.getfield 20, 3) := by decide +kernel
theorem dX7_addBeads_4 : decode cX7_addBeads 4 = .ok (.iload_n 1, 1) := by decide +kernel
theorem dX7_addBeads_5 : decode cX7_addBeads 5 = .ok (.invokevirtual 30, 3) := by decide +kernel
theorem dX7_addBeads_8 : decode cX7_addBeads 8 = .ok (.iconst 1, 1) := by decide +kernel
theorem dX7_addBeads_9 : decode cX7_addBeads 9 = .ok (.iadd, 1) := by decide +kernel
theorem dX7_addBeads_10 : decode cX7_addBeads 10 = .ok (.istore_n 3, 1) := by decide +kernel
theorem dX7_addBeads_11 : decode cX7_addBeads 11 = .ok (.iload_n 3, 1) := by decide +kernel
theorem dX7_addBeads_12 : decode cX7_addBeads 12 = .ok (.aload_n 0, 1) := by decide +kernel
theorem dX7_addBeads_13 : decode cX7_addBeads 13 = .ok (.getfield 20, 3) := by decide +kernel
theorem dX7_addBeads_16 : decode cX7_addBeads 16 = .ok (.iload_n 2, 1) := by decide +kernel
theorem dX7_addBeads_17 : decode cX7_addBeads 17 = .ok (.invokevirtual 30, 3) := by decide +kernel
theorem dX7_addBeads_20 : decode cX7_addBeads 20 = .ok (.if_icmp .ge 23, 3) := by decide +kernel
theorem dX7_addBeads_23 : decode cX7_addBeads 23 = .ok (.aload_n 0, 1) := by decide +kernel
theorem dX7_addBeads_24 : decode cX7_addBeads 24 = .ok (.iload_n 3, 1) := by decide +kernel
theorem dX7_addBeads_25 : decode cX7_addBeads 25 = .ok (.bipush 100, 2) := by decide +kernel
theorem dX7_addBeads_27 : decode cX7_addBeads 27 = .ok (.bipush 10, 2) := by decide +kernel
theorem dX7_addBeads_29 : decode cX7_addBeads 29 = .ok (.iload_n 1, 1) := by decide +kernel
theorem dX7_addBeads_30 : decode cX7_addBeads 30 = .ok (.imul, 1) := by decide +kernel
theorem dX7_addBeads_31 : decode cX7_addBeads 31 = .ok (.iadd, 1) := by decide +kernel
theorem dX7_addBeads_32 : decode cX7_addBeads 32 = .ok (.iload_n 2, 1) := by decide +kernel
theorem dX7_addBeads_33 : decode cX7_addBeads 33 = .ok (.iadd, 1) := by decide +kernel
theorem dX7_addBeads_34 : decode cX7_addBeads 34 = .ok (.invokevirtual 36, 3) := by decide +kernel
theorem dX7_addBeads_37 : decode cX7_addBeads 37 = .ok (.iinc 3 1, 3) := by decide +kernel
theorem dX7_addBeads_40 : decode cX7_addBeads 40 = .ok (.goto (-29), 3) := by decide +kernel
theorem dX7_addBeads_43 : decode cX7_addBeads 43 = .ok (.return_, 1) := by decide +kernel
theorem dX7_add_0 : decode cX7_add 0 = .ok (.aload_n 0, 1) := by decide +kernel
theorem dX7_add_1 : decode cX7_add 1 = .ok (.getfield 16, 3) := by decide +kernel
theorem dX7_add_4 : decode cX7_add 4 = .ok (.iload_n 1, 1) := by decide +kernel
theorem dX7_add_5 : decode cX7_add 5 = .ok (.iaload, 1) := by decide +kernel
theorem dX7_add_6 : decode cX7_add 6 = .ok (.aload_n 0, 1) := by decide +kernel
theorem dX7_add_7 : decode cX7_add 7 = .ok (.getfield 11, 3) := by decide +kernel
theorem dX7_add_10 : decode cX7_add 10 = .ok (.iload_n 1, 1) := by decide +kernel
theorem dX7_add_11 : decode cX7_add 11 = .ok (.aaload, 1) := by decide +kernel
theorem dX7_add_12 : decode cX7_add 12 = .ok (.arraylength, 1) := by decide +kernel
theorem dX7_add_13 : decode cX7_add 13 = .ok (.if_icmp .ge 27, 3) := by decide +kernel
theorem dX7_add_16 : decode cX7_add 16 = .ok (.aload_n 0, 1) := by decide +kernel
theorem dX7_add_17 : decode cX7_add 17 = .ok (.getfield 11, 3) := by decide +kernel
theorem dX7_add_20 : decode cX7_add 20 = .ok (.iload_n 1, 1) := by decide +kernel
theorem dX7_add_21 : decode cX7_add 21 = .ok (.aaload, 1) := by decide +kernel
theorem dX7_add_22 : decode cX7_add 22 = .ok (.aload_n 0, 1) := by decide +kernel
theorem dX7_add_23 : decode cX7_add 23 = .ok (.getfield 16, 3) := by decide +kernel
theorem dX7_add_26 : decode cX7_add 26 = .ok (.iload_n 1, 1) := by decide +kernel
theorem dX7_add_27 : decode cX7_add 27 = .ok (.iaload, 1) := by decide +kernel
theorem dX7_add_28 : decode cX7_add 28 = .ok (.iload_n 2, 1) := by decide +kernel
theorem dX7_add_29 : decode cX7_add 29 = .ok (.iastore, 1) := by decide +kernel
theorem dX7_add_30 : decode cX7_add 30 = .ok (.aload_n 0, 1) := by decide +kernel
theorem dX7_add_31 : decode cX7_add 31 = .ok (.getfield 16, 3) := by decide +kernel
theorem dX7_add_34 : decode cX7_add 34 = .ok (.iload_n 1, 1) := by decide +kernel
theorem dX7_add_35 : decode cX7_add 35 = .ok (.dup2, 1) := by decide +kernel
theorem dX7_add_36 : decode cX7_add 36 = .ok (.iaload, 1) := by decide +kernel
theorem dX7_add_37 : decode cX7_add 37 = .ok (.iconst 1, 1) := by decide +kernel
theorem dX7_add_38 : decode cX7_add 38 = .ok (.iadd, 1) := by decide +kernel
theorem dX7_add_39 : decode cX7_add 39 = .ok (.iastore, 1) := by decide +kernel
theorem dX7_add_40 : decode cX7_add 40 = .ok (.return_, 1) := by decide +kernel
theorem dX8_init_0 : decode cX8_init 0 = .ok (.aload_n 0, 1) := by decide +kernel
theorem dX8_init_1 : decode cX8_init 1 = .ok (.invokespecial 3, 3) := by decide +kernel
theorem dX8_init_4 : decode cX8_init 4 = .ok (.aload_n 0, 1) := by decide +kernel
theorem dX8_init_5 : decode cX8_init 5 = .ok (.new 9, 3) := by decide +kernel
theorem dX8_init_8 : decode cX8_init 8 = .ok (.dup, 1) := by decide +kernel
theorem dX8_init_9 : decode cX8_init 9 = .ok (.invokespecial 11, 3) := by decide +kernel
theorem dX8_init_12 : decode cX8_init 12 = .ok (.putfield 12, 3) := by decide +kernel
theorem dX8_init_15 : decode cX8_init 15 = .ok (.aload_n 0, 1) := by decide +kernel
theorem dX8_init_16 : decode cX8_init 16 = .ok (.new 16, 3) := by decide +kernel
theorem dX8_init_19 : decode cX8_init 19 = .ok (.dup, 1) := by decide +kernel
theorem dX8_init_20 : decode cX8_init 20 = .ok (.aload_n 0, 1) := by decide +kernel
theorem dX8_init_21 : decode cX8_init 21 = .ok (.getfield 12, 3) := by decide +kernel
theorem dX8_init_24 : decode cX8_init 24 = .ok (.invokespecial 18, 3) := by decide +kernel
theorem dX8_init_27 : decode cX8_init 27 = .ok (.putfield 21, 3) := by decide +kernel
theorem dX8_init_30 : decode cX8_init 30 = .ok (.aload_n 0, 1) := by decide +kernel
theorem dX8_init_31 : decode cX8_init 31 = .ok (.new 25, 3) := by decide +kernel
theorem dX8_init_34 : decode cX8_init 34 = .ok (.dup, 1) := by decide +kernel
theorem dX8_init_35 : decode cX8_init 35 = .ok (.aload_n 0, 1) := by decide +kernel
theorem dX8_init_36 : decode cX8_init 36 = .ok (.getfield 21, 3) := by decide +kernel
theorem dX8_init_39 : decode cX8_init 39 = .ok (.invokespecial 27, 3) := by decide +kernel
theorem dX8_init_42 : decode cX8_init 42 = .ok (.putfield 30, 3) := by decide +kernel
theorem dX8_init_45 : decode cX8_init 45 = .ok (.aload_n 0, 1) := by decide +kernel
theorem dX8_init_46 : decode cX8_init 46 = .ok (.new 34, 3) := by decide +kernel
theorem dX8_init_49 : decode cX8_init 49 = .ok (.dup, 1) := by decide +kernel
theorem dX8_init_50 : decode cX8_init 50 = .ok (.invokespecial 36, 3) := by decide +kernel
theorem dX8_init_53 : decode cX8_init 53 = .ok (.putfield 37, 3) := by decide +kernel
theorem dX8_init_56 : decode cX8_init 56 = .ok (.aload_n 0, 1) := by decide +kernel
theorem dX8_init_57 : decode cX8_init 57 = .ok (.new 41, 3) := by decide +kernel
theorem dX8_init_60 : decode cX8_init 60 = .ok (.dup, 1) := by decide +kernel
theorem dX8_init_61 : decode cX8_init 61 = .ok (.aload_n 0, 1) := by decide +kernel
theorem dX8_init_62 : decode cX8_init 62 = .ok (.getfield 21, 3) := by decide +kernel
theorem dX8_init_65 : decode cX8_init 65 = .ok (.aload_n 0, 1) := by decide +kernel
theorem dX8_init_66 : decode cX8_init 66 = .ok (.getfield 30, 3) := by decide +kernel
theorem dX8_init_69 : decode cX8_init 69 = .ok (.aload_n 0, 1) := by decide +kernel
theorem dX8_init_70 : decode cX8_init 70 = .ok (.getfield 37, 3) := by decide +kernel
theorem dX8_init_73 : decode cX8_init 73 = .ok (.invokespecial 43, 3) := by decide +kernel
theorem dX8_init_76 : decode cX8_init 76 = .ok (.putfield 46, 3) := by decide +kernel
theorem dX8_init_79 : decode cX8_init 79 = .ok (.aload_n 0, 1) := by decide +kernel
theorem dX8_init_80 : decode cX8_init 80 = .ok (.new 50, 3) := by decide +kernel
theorem dX8_init_83 : decode cX8_init 83 = .ok (.dup, 1) := by decide +kernel
theorem dX8_init_84 : decode cX8_init 84 = .ok (.aload_n 0, 1) := by decide +kernel
theorem dX8_init_85 : decode cX8_init 85 = .ok (.getfield 21, 3) := by decide +kernel
theorem dX8_init_88 : decode cX8_init 88 = .ok (.aload_n 0, 1) := by decide +kernel
theorem dX8_init_89 : decode cX8_init 89 = .ok (.getfield 46, 3) := by decide +kernel
theorem dX8_init_92 : decode cX8_init 92 = .ok (.invokespecial 52, 3) := by decide +kernel
theorem dX8_init_95 : decode cX8_init 95 = .ok (.putfield 55, 3) := by decide +kernel
theorem dX8_init_98 : decode cX8_init 98 = .ok (.aload_n 0, 1) := by decide +kernel
theorem dX8_init_99 : decode cX8_init 99 = .ok (.iconst 4, 1) := by decide +kernel
theorem dX8_init_100 : decode cX8_init 100 = .ok (.putfield 59, 3) := by decide +kernel
theorem dX8_init_103 : decode cX8_init 103 = .ok (.aload_n 0, 1) := by decide +kernel
theorem dX8_init_104 : decode cX8_init 104 = .ok (.iconst 0, 1) := by decide +kernel
theorem dX8_init_105 : decode cX8_init 105 = .ok (.putfield 63, 3) := by decide +kernel
theorem dX8_init_108 : decode cX8_init 108 = .ok (.aload_n 0, 1) := by decide +kernel
theorem dX8_init_109 : decode cX8_init 109 = .ok (.iconst 0, 1) := by decide +kernel
theorem dX8_init_110 : decode cX8_init 110 = .ok (.putfield 66, 3) := by decide +kernel
theorem dX8_init_113 : decode cX8_init 113 = .ok (.aload_n 0, 1) := by decide +kernel
theorem dX8_init_114 : decode cX8_init 114 = .ok (.iconst 0, 1) := by decide +kernel
theorem dX8_init_115 : decode cX8_init 115 = .ok (.putfield 70, 3) := by decide +kernel
theorem dX8_init_118 : decode cX8_init 118 = .ok (.return_, 1) := by decide +kernel
theorem dX8_flow_0 : decode cX8_flow 0 = .ok (.aload_n 0, 1) := by decide +kernel
theorem dX8_flow_1 : decode cX8_flow 1 = .ok (.getfield 12, 3) := by decide +kernel
theorem dX8_flow_4 : decode cX8_flow 4 = .ok (.iload_n 1, 1) := by decide +kernel
theorem dX8_flow_5 : decode cX8_flow 5 = .ok (.iload_n 2, 1) := by decide +kernel
theorem dX8_flow_6 : decode cX8_flow 6 = .ok (.iload_n 3, 1) := by decide +kernel
theorem dX8_flow_7 : decode cX8_flow 7 = .ok (.invokevirtual 73, 3) := by decide +kernel
theorem dX8_flow_10 : decode cX8_flow 10 = .ok (.ifCond .ne 5, 3) := by decide +kernel
theorem dX8_flow_13 : decode cX8_flow 13 = .ok (.iconst 0, 1) := by decide +kernel
theorem dX8_flow_14 : decode cX8_flow 14 = .ok (.ireturn, 1) := by decide +kernel
theorem dX8_flow_15 : decode cX8_flow 15 = .ok (.aload_n 0, 1) := by decide +kernel
theorem dX8_flow_16 : decode cX8_flow 16 = .ok (.getfield 12, 3) := by decide +kernel
theorem dX8_flow_19 : decode cX8_flow 19 = .ok (.iload_n 1, 1) := by decide +kernel
theorem dX8_flow_20 : decode cX8_flow 20 = .ok (.iload_n 2, 1) := by decide +kernel
theorem dX8_flow_21 : decode cX8_flow 21 = .ok (.invokevirtual 77, 3) := by decide +kernel
theorem dX8_flow_24 : decode cX8_flow 24 = .ok (.iload_n 3, 1) := by decide +kernel
theorem dX8_flow_25 : decode cX8_flow 25 = .ok (.if_icmp .eq 23, 3) := by decide +kernel
theorem dX8_flow_28 : decode cX8_flow 28 = .ok (.aload_n 0, 1) := by decide +kernel
theorem dX8_flow_29 : decode cX8_flow 29 = .ok (.getfield 12, 3) := by decide +kernel
theorem dX8_flow_32 : decode cX8_flow 32 = .ok (.iload_n 1, 1) := by decide +kernel
theorem dX8_flow_33 : decode cX8_flow 33 = .ok (.iload_n 2, 1) := by decide +kernel
theorem dX8_flow_34 : decode cX8_flow 34 = .ok (.iload_n 3, 1) := by decide +kernel
theorem dX8_flow_35 : decode cX8_flow 35 = .ok (.invokevirtual 81, 3) := by decide +kernel
theorem dX8_flow_38 : decode cX8_flow 38 = .ok (.aload_n 0, 1) := by decide +kernel
theorem dX8_flow_39 : decode cX8_flow 39 = .ok (.iconst 0, 1) := by decide +kernel
theorem dX8_flow_40 : decode cX8_flow 40 = .ok (.putfield 66, 3) := by decide +kernel
theorem dX8_flow_43 : decode cX8_flow 43 = .ok (.aload_n 0, 1) := by decide +kernel
theorem dX8_flow_44 : decode cX8_flow 44 = .ok (.iconst 0, 1) := by decide +kernel
theorem dX8_flow_45 : decode cX8_flow 45 = .ok (.putfield 70, 3) := by decide +kernel
theorem dX8_flow_48 : decode cX8_flow 48 = .ok (.iconst 1, 1) := by decide +kernel
theorem dX8_flow_49 : decode cX8_flow 49 = .ok (.ireturn, 1) := by decide +kernel
theorem dX8_clear_0 : decode cX8_clear 0 = .ok (.aload_n 0, 1) := by decide +kernel
theorem dX8_clear_1 : decode cX8_clear 1 = .ok (.getfield 12, 3) := by decide +kernel
theorem dX8_clear_4 : decode cX8_clear 4 = .ok (.invokevirtual 85, 3) := by decide +kernel
theorem dX8_clear_7 : decode cX8_clear 7 = .ok (.aload_n 0, 1) := by decide +kernel
theorem dX8_clear_8 : decode cX8_clear 8 = .ok (.iconst 0, 1) := by decide +kernel
theorem dX8_clear_9 : decode cX8_clear 9 = .ok (.putfield 66, 3) := by decide +kernel
theorem dX8_clear_12 : decode cX8_clear 12 = .ok (.aload_n 0, 1) := by decide +kernel
theorem dX8_clear_13 : decode cX8_clear 13 = .ok (.iconst 0, 1) := by decide +kernel
theorem dX8_clear_14 : decode cX8_clear 14 = .ok (.putfield 70, 3) := by decide +kernel
theorem dX8_clear_17 : decode cX8_clear 17 = .ok (.return_, 1) := by decide +kernel
theorem dX8_set_0 : decode cX8_set 0 = .ok (.iload_n 1, 1) := by decide +kernel
theorem dX8_set_1 : decode cX8_set 1 = .ok (.ifCond .lt 20, 3) := by decide +kernel
theorem dX8_set_4 : decode cX8_set 4 = .ok (.iload_n 1, 1) := by decide +kernel
theorem dX8_set_5 : decode cX8_set 5 = .ok (.bipush 50, 2) := by decide +kernel
theorem dX8_set_7 : decode cX8_set 7 = .ok (.if_icmp .gt 14, 3) := by decide +kernel
theorem dX8_set_10 : decode cX8_set 10 = .ok (.iload_n 2, 1) := by decide +kernel
theorem dX8_set_11 : decode cX8_set 11 = .ok (.ifCond .lt 10, 3) := by decide +kernel
theorem dX8_set_14 : decode cX8_set 14 = .ok (.iload_n 2, 1) := by decide +kernel
theorem dX8_set_15 : decode cX8_set 15 = .ok (.sipush 9999, 3) := by decide +kernel
theorem dX8_set_18 : decode cX8_set 18 = .ok (.if_icmp .le 5, 3) := by decide +kernel
theorem dX8_set_21 : decode cX8_set 21 = .ok (.iconst 0, 1) := by decide +kernel
theorem dX8_set_22 : decode cX8_set 22 = .ok (.ireturn, 1) := by decide +kernel
theorem dX8_set_23 : decode cX8_set 23 = .ok (.aload_n 0, 1) := by decide +kernel
theorem dX8_set_24 : decode cX8_set 24 = .ok (.getfield 63, 3) := by decide +kernel
theorem dX8_set_27 : decode cX8_set 27 = .ok (.iload_n 2, 1) := by decide +kernel
theorem dX8_set_28 : decode cX8_set 28 = .ok (.if_icmp .eq 8, 3) := by decide +kernel
theorem dX8_set_31 : decode cX8_set 31 = .ok (.aload_n 0, 1) := by decide +kernel
theorem dX8_set_32 : decode cX8_set 32 = .ok (.iconst 0, 1) := by decide +kernel
theorem dX8_set_33 : decode cX8_set 33 = .ok (.putfield 70, 3) := by decide +kernel
theorem dX8_set_36 : decode cX8_set 36 = .ok (.aload_n 0, 1) := by decide +kernel
theorem dX8_set_37 : decode cX8_set 37 = .ok (.iload_n 1, 1) := by decide +kernel
theorem dX8_set_38 : decode cX8_set 38 = .ok (.putfield 59, 3) := by decide +kernel
theorem dX8_set_41 : decode cX8_set 41 = .ok (.aload_n 0, 1) := by decide +kernel
theorem dX8_set_42 : decode cX8_set 42 = .ok (.iload_n 2, 1) := by decide +kernel
theorem dX8_set_43 : decode cX8_set 43 = .ok (.putfield 63, 3) := by decide +kernel
theorem dX8_set_46 : decode cX8_set 46 = .ok (.iconst 1, 1) := by decide +kernel
theorem dX8_set_47 : decode cX8_set 47 = .ok (.ireturn, 1) := by decide +kernel
theorem dX8_about_0 : decode cX8_about 0 = .ok (.iload_n 1, 1) := by decide +kernel
theorem dX8_about_1 : decode cX8_about 1 = .ok (.tableswitch 113 0 7 #[47, 55, 63, 71, 79, 87, 92, 97], 47) := by decide +kernel
theorem dX8_about_48 : decode cX8_about 48 = .ok (.aload_n 0, 1) := by decide +kernel
theorem dX8_about_49 : decode cX8_about 49 = .ok (.getfield 12, 3) := by decide +kernel
theorem dX8_about_52 : decode cX8_about 52 = .ok (.invokevirtual 88, 3) := by decide +kernel
theorem dX8_about_55 : decode cX8_about 55 = .ok (.ireturn, 1) := by decide +kernel
theorem dX8_about_56 : decode cX8_about 56 = .ok (.aload_n 0, 1) := by decide +kernel
theorem dX8_about_57 : decode cX8_about 57 = .ok (.getfield 12, 3) := by decide +kernel
theorem dX8_about_60 : decode cX8_about 60 = .ok (.invokevirtual 92, 3) := by decide +kernel
theorem dX8_about_63 : decode cX8_about 63 = .ok (.ireturn, 1) := by decide +kernel
theorem dX8_about_64 : decode cX8_about 64 = .ok (.aload_n 0, 1) := by decide +kernel
theorem dX8_about_65 : decode cX8_about 65 = .ok (.invokevirtual 95, 3) := by decide +kernel
theorem dX8_about_68 : decode cX8_about 68 = .ok (.invokevirtual 99, 3) := by decide +kernel
theorem dX8_about_71 : decode cX8_about 71 = .ok (.ireturn, 1) := by decide +kernel
theorem dX8_about_72 : decode cX8_about 72 = .ok (.aload_n 0, 1) := by decide +kernel
theorem dX8_about_73 : decode cX8_about 73 = .ok (.invokevirtual 95, 3) := by decide +kernel
theorem dX8_about_76 : decode cX8_about 76 = .ok (.invokevirtual 102, 3) := by decide +kernel
theorem dX8_about_79 : decode cX8_about 79 = .ok (.ireturn, 1) := by decide +kernel
theorem dX8_about_80 : decode cX8_about 80 = .ok (.aload_n 0, 1) := by decide +kernel
theorem dX8_about_81 : decode cX8_about 81 = .ok (.invokevirtual 95, 3) := by decide +kernel
theorem dX8_about_84 : decode cX8_about 84 = .ok (.invokevirtual 105, 3) := by decide +kernel
theorem dX8_about_87 : decode cX8_about 87 = .ok (.ireturn, 1) := by decide +kernel
theorem dX8_about_88 : decode cX8_about 88 = .ok (.aload_n 0, 1) := by decide +kernel
theorem dX8_about_89 : decode cX8_about 89 = .ok (.getfield 59, 3) := by decide +kernel
theorem dX8_about_92 : decode cX8_about 92 = .ok (.ireturn, 1) := by decide +kernel
theorem dX8_about_93 : decode cX8_about 93 = .ok (.aload_n 0, 1) := by decide +kernel
theorem dX8_about_94 : decode cX8_about 94 = .ok (.getfield 63, 3) := by decide +kernel
theorem dX8_about_97 : decode cX8_about 97 = .ok (.ireturn, 1) := by decide +kernel
theorem dX8_about_98 : decode cX8_about 98 = .ok (.aload_n 0, 1) := by decide +kernel
theorem dX8_about_99 : decode cX8_about 99 = .ok (.getfield 37, 3) := by decide +kernel
theorem dX8_about_102 : decode cX8_about 102 = .ok (.invokevirtual 108, 3) := by decide +kernel
theorem dX8_about_105 : decode cX8_about 105 = .ok (.ifCond .eq 7, 3) := by decide +kernel
theorem dX8_about_108 : decode cX8_about 108 = .ok (.iconst 1, 1) := by decide +kernel
theorem dX8_about_109 : decode cX8_about 109 = .ok (.goto 4, 3) := by decide +kernel
theorem dX8_about_112 : decode cX8_about 112 = .ok (.iconst 0, 1) := by decide +kernel
theorem dX8_about_113 : decode cX8_about 113 = .ok (.ireturn, 1) := by decide +kernel
theorem dX8_about_114 : decode cX8_about 114 = .ok (.iconst (-1), 1) := by decide +kernel
theorem dX8_about_115 : decode cX8_about 115 = .ok (.ireturn, 1) := by decide +kernel
theorem dX8_width_0 : decode cX8_width 0 = .ok (.aload_n 0, 1) := by decide +kernel
theorem dX8_width_1 : decode cX8_width 1 = .ok (.getfield 12, 3) := by decide +kernel
theorem dX8_width_4 : decode cX8_width 4 = .ok (.iload_n 1, 1) := by decide +kernel
theorem dX8_width_5 : decode cX8_width 5 = .ok (.iload_n 2, 1) := by decide +kernel
theorem dX8_width_6 : decode cX8_width 6 = .ok (.invokevirtual 77, 3) := by decide +kernel
theorem dX8_width_9 : decode cX8_width 9 = .ok (.ireturn, 1) := by decide +kernel
theorem dX8_turned_0 : decode cX8_turned 0 = .ok (.aload_n 0, 1) := by decide +kernel
theorem dX8_turned_1 : decode cX8_turned 1 = .ok (.getfield 12, 3) := by decide +kernel
theorem dX8_turned_4 : decode cX8_turned 4 = .ok (.iload_n 1, 1) := by decide +kernel
theorem dX8_turned_5 : decode cX8_turned 5 = .ok (.iload_n 2, 1) := by decide +kernel
theorem dX8_turned_6 : decode cX8_turned 6 = .ok (.invokevirtual 77, 3) := by decide +kernel
theorem dX8_turned_9 : decode cX8_turned 9 = .ok (.ifCond .ne 5, 3) := by decide +kernel
theorem dX8_turned_12 : decode cX8_turned 12 = .ok (.iconst (-1), 1) := by decide +kernel
theorem dX8_turned_13 : decode cX8_turned 13 = .ok (.ireturn, 1) := by decide +kernel
theorem dX8_turned_14 : decode cX8_turned 14 = .ok (.aload_n 0, 1) := by decide +kernel
theorem dX8_turned_15 : decode cX8_turned 15 = .ok (.invokevirtual 95, 3) := by decide +kernel
theorem dX8_turned_18 : decode cX8_turned 18 = .ok (.iload_n 1, 1) := by decide +kernel
theorem dX8_turned_19 : decode cX8_turned 19 = .ok (.iload_n 2, 1) := by decide +kernel
theorem dX8_turned_20 : decode cX8_turned 20 = .ok (.invokevirtual 112, 3) := by decide +kernel
theorem dX8_turned_23 : decode cX8_turned 23 = .ok (.ifCond .eq 7, 3) := by decide +kernel
theorem dX8_turned_26 : decode cX8_turned 26 = .ok (.iconst 1, 1) := by decide +kernel
theorem dX8_turned_27 : decode cX8_turned 27 = .ok (.goto 4, 3) := by decide +kernel
theorem dX8_turned_30 : decode cX8_turned 30 = .ok (.iconst 0, 1) := by decide +kernel
theorem dX8_turned_31 : decode cX8_turned 31 = .ok (.ireturn, 1) := by decide +kernel
theorem dX8_row_0 : decode cX8_row 0 = .ok (.aload_n 0, 1) := by decide +kernel
theorem dX8_row_1 : decode cX8_row 1 = .ok (.invokevirtual 95, 3) := by decide +kernel
theorem dX8_row_4 : decode cX8_row 4 = .ok (.iload_n 1, 1) := by decide +kernel
theorem dX8_row_5 : decode cX8_row 5 = .ok (.invokevirtual 116, 3) := by decide +kernel
theorem dX8_row_8 : decode cX8_row 8 = .ok (.ireturn, 1) := by decide +kernel
theorem dX8_layer_0 : decode cX8_layer 0 = .ok (.iload_n 1, 1) := by decide +kernel
theorem dX8_layer_1 : decode cX8_layer 1 = .ok (.invokestatic 120, 3) := by decide +kernel
theorem dX8_layer_4 : decode cX8_layer 4 = .ok (.ifCond .eq 14, 3) := by decide +kernel
theorem dX8_layer_7 : decode cX8_layer 7 = .ok (.aload_n 0, 1) := by decide +kernel
theorem dX8_layer_8 : decode cX8_layer 8 = .ok (.invokevirtual 95, 3) := by decide +kernel
theorem dX8_layer_11 : decode cX8_layer 11 = .ok (.iload_n 1, 1) := by decide +kernel
theorem dX8_layer_12 : decode cX8_layer 12 = .ok (.invokevirtual 124, 3) := by decide +kernel
theorem dX8_layer_15 : decode cX8_layer 15 = .ok (.goto 4, 3) := by decide +kernel
theorem dX8_layer_18 : decode cX8_layer 18 = .ok (.iconst (-1), 1) := by decide +kernel
theorem dX8_layer_19 : decode cX8_layer 19 = .ok (.ireturn, 1) := by decide +kernel
theorem dX8_rest_0 : decode cX8_rest 0 = .ok (.iload_n 1, 1) := by decide +kernel
theorem dX8_rest_1 : decode cX8_rest 1 = .ok (.invokestatic 120, 3) := by decide +kernel
theorem dX8_rest_4 : decode cX8_rest 4 = .ok (.ifCond .eq 23, 3) := by decide +kernel
theorem dX8_rest_7 : decode cX8_rest 7 = .ok (.aload_n 0, 1) := by decide +kernel
theorem dX8_rest_8 : decode cX8_rest 8 = .ok (.getfield 12, 3) := by decide +kernel
theorem dX8_rest_11 : decode cX8_rest 11 = .ok (.iload_n 1, 1) := by decide +kernel
theorem dX8_rest_12 : decode cX8_rest 12 = .ok (.invokevirtual 127, 3) := by decide +kernel
theorem dX8_rest_15 : decode cX8_rest 15 = .ok (.aload_n 0, 1) := by decide +kernel
theorem dX8_rest_16 : decode cX8_rest 16 = .ok (.getfield 12, 3) := by decide +kernel
theorem dX8_rest_19 : decode cX8_rest 19 = .ok (.iload_n 1, 1) := by decide +kernel
theorem dX8_rest_20 : decode cX8_rest 20 = .ok (.invokevirtual 130, 3) := by decide +kernel
theorem dX8_rest_23 : decode cX8_rest 23 = .ok (.isub, 1) := by decide +kernel
theorem dX8_rest_24 : decode cX8_rest 24 = .ok (.goto 6, 3) := by decide +kernel
theorem dX8_rest_27 : decode cX8_rest 27 = .ok (.sipush (-10000), 3) := by decide +kernel
theorem dX8_rest_30 : decode cX8_rest 30 = .ok (.ireturn, 1) := by decide +kernel
theorem dX8_cost_0 : decode cX8_cost 0 = .ok (.aload_n 0, 1) := by decide +kernel
theorem dX8_cost_1 : decode cX8_cost 1 = .ok (.invokevirtual 133, 3) := by decide +kernel
theorem dX8_cost_4 : decode cX8_cost 4 = .ok (.ifCond .eq 13, 3) := by decide +kernel
theorem dX8_cost_7 : decode cX8_cost 7 = .ok (.aload_n 0, 1) := by decide +kernel
theorem dX8_cost_8 : decode cX8_cost 8 = .ok (.getfield 46, 3) := by decide +kernel
theorem dX8_cost_11 : decode cX8_cost 11 = .ok (.invokevirtual 136, 3) := by decide +kernel
theorem dX8_cost_14 : decode cX8_cost 14 = .ok (.goto 4, 3) := by decide +kernel
theorem dX8_cost_17 : decode cX8_cost 17 = .ok (.iconst (-1), 1) := by decide +kernel
theorem dX8_cost_18 : decode cX8_cost 18 = .ok (.ireturn, 1) := by decide +kernel
theorem dX8_part_0 : decode cX8_part 0 = .ok (.aload_n 0, 1) := by decide +kernel
theorem dX8_part_1 : decode cX8_part 1 = .ok (.invokevirtual 133, 3) := by decide +kernel
theorem dX8_part_4 : decode cX8_part 4 = .ok (.ifCond .ne 5, 3) := by decide +kernel
theorem dX8_part_7 : decode cX8_part 7 = .ok (.iconst (-1), 1) := by decide +kernel
theorem dX8_part_8 : decode cX8_part 8 = .ok (.ireturn, 1) := by decide +kernel
theorem dX8_part_9 : decode cX8_part 9 = .ok (.iload_n 1, 1) := by decide +kernel
theorem dX8_part_10 : decode cX8_part 10 = .ok (.tableswitch 50 0 2 #[26, 34, 42], 26) := by decide +kernel
theorem dX8_part_36 : decode cX8_part 36 = .ok (.aload_n 0, 1) := by decide +kernel
theorem dX8_part_37 : decode cX8_part 37 = .ok (.getfield 46, 3) := by decide +kernel
theorem dX8_part_40 : decode cX8_part 40 = .ok (.invokevirtual 139, 3) := by decide +kernel
theorem dX8_part_43 : decode cX8_part 43 = .ok (.ireturn, 1) := by decide +kernel
theorem dX8_part_44 : decode cX8_part 44 = .ok (.aload_n 0, 1) := by decide +kernel
theorem dX8_part_45 : decode cX8_part 45 = .ok (.getfield 46, 3) := by decide +kernel
theorem dX8_part_48 : decode cX8_part 48 = .ok (.invokevirtual 142, 3) := by decide +kernel
theorem dX8_part_51 : decode cX8_part 51 = .ok (.ireturn, 1) := by decide +kernel
theorem dX8_part_52 : decode cX8_part 52 = .ok (.aload_n 0, 1) := by decide +kernel
theorem dX8_part_53 : decode cX8_part 53 = .ok (.getfield 46, 3) := by decide +kernel
theorem dX8_part_56 : decode cX8_part 56 = .ok (.invokevirtual 145, 3) := by decide +kernel
theorem dX8_part_59 : decode cX8_part 59 = .ok (.ireturn, 1) := by decide +kernel
theorem dX8_part_60 : decode cX8_part 60 = .ok (.iconst (-1), 1) := by decide +kernel
theorem dX8_part_61 : decode cX8_part 61 = .ok (.ireturn, 1) := by decide +kernel
theorem dX8_items_0 : decode cX8_items 0 = .ok (.aload_n 0, 1) := by decide +kernel
theorem dX8_items_1 : decode cX8_items 1 = .ok (.iload_n 1, 1) := by decide +kernel
theorem dX8_items_2 : decode cX8_items 2 = .ok (.invokevirtual 148, 3) := by decide +kernel
theorem dX8_items_5 : decode cX8_items 5 = .ok (.ifCond .eq 14, 3) := by decide +kernel
theorem dX8_items_8 : decode cX8_items 8 = .ok (.aload_n 0, 1) := by decide +kernel
theorem dX8_items_9 : decode cX8_items 9 = .ok (.getfield 30, 3) := by decide +kernel
theorem dX8_items_12 : decode cX8_items 12 = .ok (.iload_n 1, 1) := by decide +kernel
theorem dX8_items_13 : decode cX8_items 13 = .ok (.invokevirtual 151, 3) := by decide +kernel
theorem dX8_items_16 : decode cX8_items 16 = .ok (.goto 4, 3) := by decide +kernel
theorem dX8_items_19 : decode cX8_items 19 = .ok (.iconst (-1), 1) := by decide +kernel
theorem dX8_items_20 : decode cX8_items 20 = .ok (.ireturn, 1) := by decide +kernel
theorem dX8_item_0 : decode cX8_item 0 = .ok (.aload_n 0, 1) := by decide +kernel
theorem dX8_item_1 : decode cX8_item 1 = .ok (.iload_n 1, 1) := by decide +kernel
theorem dX8_item_2 : decode cX8_item 2 = .ok (.invokevirtual 148, 3) := by decide +kernel
theorem dX8_item_5 : decode cX8_item 5 = .ok (.ifCond .eq 10, 3) := by decide +kernel
theorem dX8_item_8 : decode cX8_item 8 = .ok (.aload_n 0, 1) := by decide +kernel
theorem dX8_item_9 : decode cX8_item 9 = .ok (.invokevirtual 133, 3) := by decide +kernel
theorem dX8_item_12 : decode cX8_item 12 = .ok (.ifCond .ne 5, 3) := by decide +kernel
theorem dX8_item_15 : decode cX8_item 15 = .ok (.iconst (-1), 1) := by decide +kernel
theorem dX8_item_16 : decode cX8_item 16 = .ok (.ireturn, 1) := by decide +kernel
theorem dX8_item_17 : decode cX8_item 17 = .ok (.aload_n 0, 1) := by decide +kernel
theorem dX8_item_18 : decode cX8_item 18 = .ok (.getfield 46, 3) := by decide +kernel
theorem dX8_item_21 : decode cX8_item 21 = .ok (.iload_n 1, 1) := by decide +kernel
theorem dX8_item_22 : decode cX8_item 22 = .ok (.iload_n 2, 1) := by decide +kernel
theorem dX8_item_23 : decode cX8_item 23 = .ok (.invokevirtual 154, 3) := by decide +kernel
theorem dX8_item_26 : decode cX8_item 26 = .ok (.ireturn, 1) := by decide +kernel
theorem dX8_place_0 : decode cX8_place 0 = .ok (.iload_n 1, 1) := by decide +kernel
theorem dX8_place_1 : decode cX8_place 1 = .ok (.invokestatic 120, 3) := by decide +kernel
theorem dX8_place_4 : decode cX8_place 4 = .ok (.ifCond .eq 19, 3) := by decide +kernel
theorem dX8_place_7 : decode cX8_place 7 = .ok (.iload_n 2, 1) := by decide +kernel
theorem dX8_place_8 : decode cX8_place 8 = .ok (.ifCond .lt 15, 3) := by decide +kernel
theorem dX8_place_11 : decode cX8_place 11 = .ok (.iload_n 2, 1) := by decide +kernel
theorem dX8_place_12 : decode cX8_place 12 = .ok (.iconst 1, 1) := by decide +kernel
theorem dX8_place_13 : decode cX8_place 13 = .ok (.if_icmp .gt 10, 3) := by decide +kernel
theorem dX8_place_16 : decode cX8_place 16 = .ok (.aload_n 0, 1) := by decide +kernel
theorem dX8_place_17 : decode cX8_place 17 = .ok (.invokevirtual 133, 3) := by decide +kernel
theorem dX8_place_20 : decode cX8_place 20 = .ok (.ifCond .ne 5, 3) := by decide +kernel
theorem dX8_place_23 : decode cX8_place 23 = .ok (.iconst (-1), 1) := by decide +kernel
theorem dX8_place_24 : decode cX8_place 24 = .ok (.ireturn, 1) := by decide +kernel
theorem dX8_place_25 : decode cX8_place 25 = .ok (.aload_n 0, 1) := by decide +kernel
theorem dX8_place_26 : decode cX8_place 26 = .ok (.getfield 21, 3) := by decide +kernel
theorem dX8_place_29 : decode cX8_place 29 = .ok (.iload_n 1, 1) := by decide +kernel
theorem dX8_place_30 : decode cX8_place 30 = .ok (.invokevirtual 124, 3) := by decide +kernel
theorem dX8_place_33 : decode cX8_place 33 = .ok (.istore_n 3, 1) := by decide +kernel
theorem dX8_place_34 : decode cX8_place 34 = .ok (.iload_n 3, 1) := by decide +kernel
theorem dX8_place_35 : decode cX8_place 35 = .ok (.iconst (-1), 1) := by decide +kernel
theorem dX8_place_36 : decode cX8_place 36 = .ok (.if_icmp .ne 5, 3) := by decide +kernel
theorem dX8_place_39 : decode cX8_place 39 = .ok (.iconst (-1), 1) := by decide +kernel
theorem dX8_place_40 : decode cX8_place 40 = .ok (.ireturn, 1) := by decide +kernel
theorem dX8_place_41 : decode cX8_place 41 = .ok (.aload_n 0, 1) := by decide +kernel
theorem dX8_place_42 : decode cX8_place 42 = .ok (.getfield 55, 3) := by decide +kernel
theorem dX8_place_45 : decode cX8_place 45 = .ok (.iload_n 3, 1) := by decide +kernel
theorem dX8_place_46 : decode cX8_place 46 = .ok (.iload_n 1, 1) := by decide +kernel
theorem dX8_place_47 : decode cX8_place 47 = .ok (.aload_n 0, 1) := by decide +kernel
theorem dX8_place_48 : decode cX8_place 48 = .ok (.getfield 59, 3) := by decide +kernel
theorem dX8_place_51 : decode cX8_place 51 = .ok (.invokevirtual 157, 3) := by decide +kernel
theorem dX8_place_54 : decode cX8_place 54 = .ok (.istore 4, 2) := by decide +kernel
theorem dX8_place_56 : decode cX8_place 56 = .ok (.iload_n 2, 1) := by decide +kernel
theorem dX8_place_57 : decode cX8_place 57 = .ok (.ifCond .ne 8, 3) := by decide +kernel
theorem dX8_place_60 : decode cX8_place 60 = .ok (.iload 4, 2) := by decide +kernel
theorem dX8_place_62 : decode cX8_place 62 = .ok (.goto 14, 3) := by decide +kernel
theorem dX8_place_65 : decode cX8_place 65 = .ok (.iload 4, 2) := by decide +kernel
theorem dX8_place_67 : decode cX8_place 67 = .ok (.aload_n 0, 1) := by decide +kernel
theorem dX8_place_68 : decode cX8_place 68 = .ok (.getfield 55, 3) := by decide +kernel
theorem dX8_place_71 : decode cX8_place 71 = .ok (.iload_n 1, 1) := by decide +kernel
theorem dX8_place_72 : decode cX8_place 72 = .ok (.invokevirtual 161, 3) := by decide +kernel
theorem dX8_place_75 : decode cX8_place 75 = .ok (.iadd, 1) := by decide +kernel
theorem dX8_place_76 : decode cX8_place 76 = .ok (.ireturn, 1) := by decide +kernel
theorem dX8_point_0 : decode cX8_point 0 = .ok (.aload_n 0, 1) := by decide +kernel
theorem dX8_point_1 : decode cX8_point 1 = .ok (.getfield 12, 3) := by decide +kernel
theorem dX8_point_4 : decode cX8_point 4 = .ok (.iload_n 1, 1) := by decide +kernel
theorem dX8_point_5 : decode cX8_point 5 = .ok (.iload_n 2, 1) := by decide +kernel
theorem dX8_point_6 : decode cX8_point 6 = .ok (.invokevirtual 77, 3) := by decide +kernel
theorem dX8_point_9 : decode cX8_point 9 = .ok (.ifCond .eq 22, 3) := by decide +kernel
theorem dX8_point_12 : decode cX8_point 12 = .ok (.aload_n 0, 1) := by decide +kernel
theorem dX8_point_13 : decode cX8_point 13 = .ok (.invokevirtual 133, 3) := by decide +kernel
theorem dX8_point_16 : decode cX8_point 16 = .ok (.ifCond .eq 15, 3) := by decide +kernel
theorem dX8_point_19 : decode cX8_point 19 = .ok (.aload_n 0, 1) := by decide +kernel
theorem dX8_point_20 : decode cX8_point 20 = .ok (.getfield 21, 3) := by decide +kernel
theorem dX8_point_23 : decode cX8_point 23 = .ok (.iload_n 1, 1) := by decide +kernel
theorem dX8_point_24 : decode cX8_point 24 = .ok (.iload_n 2, 1) := by decide +kernel
theorem dX8_point_25 : decode cX8_point 25 = .ok (.invokevirtual 112, 3) := by decide +kernel
theorem dX8_point_28 : decode cX8_point 28 = .ok (.ifCond .eq 5, 3) := by decide +kernel
theorem dX8_point_31 : decode cX8_point 31 = .ok (.iconst (-1), 1) := by decide +kernel
theorem dX8_point_32 : decode cX8_point 32 = .ok (.ireturn, 1) := by decide +kernel
theorem dX8_point_33 : decode cX8_point 33 = .ok (.iload_n 3, 1) := by decide +kernel
theorem dX8_point_34 : decode cX8_point 34 = .ok (.aload_n 0, 1) := by decide +kernel
theorem dX8_point_35 : decode cX8_point 35 = .ok (.getfield 21, 3) := by decide +kernel
theorem dX8_point_38 : decode cX8_point 38 = .ok (.iload_n 1, 1) := by decide +kernel
theorem dX8_point_39 : decode cX8_point 39 = .ok (.invokevirtual 124, 3) := by decide +kernel
theorem dX8_point_42 : decode cX8_point 42 = .ok (.if_icmp .lt 15, 3) := by decide +kernel
theorem dX8_point_45 : decode cX8_point 45 = .ok (.iload_n 3, 1) := by decide +kernel
theorem dX8_point_46 : decode cX8_point 46 = .ok (.aload_n 0, 1) := by decide +kernel
theorem dX8_point_47 : decode cX8_point 47 = .ok (.getfield 21, 3) := by decide +kernel
theorem dX8_point_50 : decode cX8_point 50 = .ok (.iload_n 2, 1) := by decide +kernel
theorem dX8_point_51 : decode cX8_point 51 = .ok (.invokevirtual 124, 3) := by decide +kernel
theorem dX8_point_54 : decode cX8_point 54 = .ok (.if_icmp .le 5, 3) := by decide +kernel
theorem dX8_point_57 : decode cX8_point 57 = .ok (.iconst (-1), 1) := by decide +kernel
theorem dX8_point_58 : decode cX8_point 58 = .ok (.ireturn, 1) := by decide +kernel
theorem dX8_point_59 : decode cX8_point 59 = .ok (.iload 4, 2) := by decide +kernel
theorem dX8_point_61 : decode cX8_point 61 = .ok (.ifCond .ne 18, 3) := by decide +kernel
theorem dX8_point_64 : decode cX8_point 64 = .ok (.aload_n 0, 1) := by decide +kernel
theorem dX8_point_65 : decode cX8_point 65 = .ok (.getfield 55, 3) := by decide +kernel
theorem dX8_point_68 : decode cX8_point 68 = .ok (.iload_n 1, 1) := by decide +kernel
theorem dX8_point_69 : decode cX8_point 69 = .ok (.iload_n 2, 1) := by decide +kernel
theorem dX8_point_70 : decode cX8_point 70 = .ok (.iload_n 3, 1) := by decide +kernel
theorem dX8_point_71 : decode cX8_point 71 = .ok (.aload_n 0, 1) := by decide +kernel
theorem dX8_point_72 : decode cX8_point 72 = .ok (.getfield 59, 3) := by decide +kernel
theorem dX8_point_75 : decode cX8_point 75 = .ok (.invokevirtual 164, 3) := by decide +kernel
theorem dX8_point_78 : decode cX8_point 78 = .ok (.ireturn, 1) := by decide +kernel
theorem dX8_point_79 : decode cX8_point 79 = .ok (.iload 4, 2) := by decide +kernel
theorem dX8_point_81 : decode cX8_point 81 = .ok (.iconst 1, 1) := by decide +kernel
theorem dX8_point_82 : decode cX8_point 82 = .ok (.if_icmp .ne 20, 3) := by decide +kernel
theorem dX8_point_85 : decode cX8_point 85 = .ok (.aload_n 0, 1) := by decide +kernel
theorem dX8_point_86 : decode cX8_point 86 = .ok (.getfield 55, 3) := by decide +kernel
theorem dX8_point_89 : decode cX8_point 89 = .ok (.iload_n 1, 1) := by decide +kernel
theorem dX8_point_90 : decode cX8_point 90 = .ok (.iload_n 2, 1) := by decide +kernel
theorem dX8_point_91 : decode cX8_point 91 = .ok (.iload_n 3, 1) := by decide +kernel
theorem dX8_point_92 : decode cX8_point 92 = .ok (.aload_n 0, 1) := by decide +kernel
theorem dX8_point_93 : decode cX8_point 93 = .ok (.getfield 59, 3) := by decide +kernel
theorem dX8_point_96 : decode cX8_point 96 = .ok (.invokevirtual 168, 3) := by decide +kernel
theorem dX8_point_99 : decode cX8_point 99 = .ok (.goto 4, 3) := by decide +kernel
theorem dX8_point_102 : decode cX8_point 102 = .ok (.iconst (-1), 1) := by decide +kernel
theorem dX8_point_103 : decode cX8_point 103 = .ok (.ireturn, 1) := by decide +kernel
theorem dX8_keep_0 : decode cX8_keep 0 = .ok (.aload_n 0, 1) := by decide +kernel
theorem dX8_keep_1 : decode cX8_keep 1 = .ok (.invokevirtual 133, 3) := by decide +kernel
theorem dX8_keep_4 : decode cX8_keep 4 = .ok (.ifCond .ne 5, 3) := by decide +kernel
theorem dX8_keep_7 : decode cX8_keep 7 = .ok (.iconst 0, 1) := by decide +kernel
theorem dX8_keep_8 : decode cX8_keep 8 = .ok (.ireturn, 1) := by decide +kernel
theorem dX8_keep_9 : decode cX8_keep 9 = .ok (.aload_n 0, 1) := by decide +kernel
theorem dX8_keep_10 : decode cX8_keep 10 = .ok (.getfield 37, 3) := by decide +kernel
theorem dX8_keep_13 : decode cX8_keep 13 = .ok (.invokevirtual 171, 3) := by decide +kernel
theorem dX8_keep_16 : decode cX8_keep 16 = .ok (.iconst 0, 1) := by decide +kernel
theorem dX8_keep_17 : decode cX8_keep 17 = .ok (.istore_n 1, 1) := by decide +kernel
theorem dX8_keep_18 : decode cX8_keep 18 = .ok (.iload_n 1, 1) := by decide +kernel
theorem dX8_keep_19 : decode cX8_keep 19 = .ok (.aload_n 0, 1) := by decide +kernel
theorem dX8_keep_20 : decode cX8_keep 20 = .ok (.getfield 21, 3) := by decide +kernel
theorem dX8_keep_23 : decode cX8_keep 23 = .ok (.invokevirtual 105, 3) := by decide +kernel
theorem dX8_keep_26 : decode cX8_keep 26 = .ok (.if_icmp .ge 47, 3) := by decide +kernel
theorem dX8_keep_29 : decode cX8_keep 29 = .ok (.iconst 0, 1) := by decide +kernel
theorem dX8_keep_30 : decode cX8_keep 30 = .ok (.istore_n 2, 1) := by decide +kernel
theorem dX8_keep_31 : decode cX8_keep 31 = .ok (.iload_n 2, 1) := by decide +kernel
theorem dX8_keep_32 : decode cX8_keep 32 = .ok (.aload_n 0, 1) := by decide +kernel
theorem dX8_keep_33 : decode cX8_keep 33 = .ok (.getfield 30, 3) := by decide +kernel
theorem dX8_keep_36 : decode cX8_keep 36 = .ok (.iload_n 1, 1) := by decide +kernel
theorem dX8_keep_37 : decode cX8_keep 37 = .ok (.invokevirtual 151, 3) := by decide +kernel
theorem dX8_keep_40 : decode cX8_keep 40 = .ok (.if_icmp .ge 27, 3) := by decide +kernel
theorem dX8_keep_43 : decode cX8_keep 43 = .ok (.aload_n 0, 1) := by decide +kernel
theorem dX8_keep_44 : decode cX8_keep 44 = .ok (.getfield 37, 3) := by decide +kernel
theorem dX8_keep_47 : decode cX8_keep 47 = .ok (.aload_n 0, 1) := by decide +kernel
theorem dX8_keep_48 : decode cX8_keep 48 = .ok (.getfield 46, 3) := by decide +kernel
theorem dX8_keep_51 : decode cX8_keep 51 = .ok (.iload_n 1, 1) := by decide +kernel
