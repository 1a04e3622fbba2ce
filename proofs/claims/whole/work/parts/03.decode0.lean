theorem dX0_init_0 : decode cX0_init 0 = .ok (.aload_n 0, 1) := by decide +kernel
theorem dX0_init_1 : decode cX0_init 1 = .ok (.invokespecial 3, 3) := by decide +kernel
theorem dX0_init_4 : decode cX0_init 4 = .ok (.aload_n 0, 1) := by decide +kernel
theorem dX0_init_5 : decode cX0_init 5 = .ok (.iconst 0, 1) := by decide +kernel
theorem dX0_init_6 : decode cX0_init 6 = .ok (.putfield 9, 3) := by decide +kernel
theorem dX0_init_9 : decode cX0_init 9 = .ok (.aload_n 0, 1) := by decide +kernel
theorem dX0_init_10 : decode cX0_init 10 = .ok (.iconst 1, 1) := by decide +kernel
theorem dX0_init_11 : decode cX0_init 11 = .ok (.putfield 15, 3) := by decide +kernel
theorem dX0_init_14 : decode cX0_init 14 = .ok (.aload_n 0, 1) := by decide +kernel
theorem dX0_init_15 : decode cX0_init 15 = .ok (.iconst 0, 1) := by decide +kernel
theorem dX0_init_16 : decode cX0_init 16 = .ok (.newarray .int, 2) := by decide +kernel
theorem dX0_init_18 : decode cX0_init 18 = .ok (.putfield 18, 3) := by decide +kernel
theorem dX0_init_21 : decode cX0_init 21 = .ok (.aload_n 0, 1) := by decide +kernel
theorem dX0_init_22 : decode cX0_init 22 = .ok (.iconst 1, 1) := by decide +kernel
theorem dX0_init_23 : decode cX0_init 23 = .ok (.newarray .int, 2) := by decide +kernel
theorem dX0_init_25 : decode cX0_init 25 = .ok (.putfield 22, 3) := by decide +kernel
theorem dX0_init_28 : decode cX0_init 28 = .ok (.aload_n 0, 1) := by decide +kernel
theorem dX0_init_29 : decode cX0_init 29 = .ok (.iconst 1, 1) := by decide +kernel
theorem dX0_init_30 : decode cX0_init 30 = .ok (.newarray .int, 2) := by decide +kernel
theorem dX0_init_32 : decode cX0_init 32 = .ok (.putfield 25, 3) := by decide +kernel
theorem dX0_init_35 : decode cX0_init 35 = .ok (.return_, 1) := by decide +kernel
theorem dX0_init__0 : decode cX0_init_ 0 = .ok (.aload_n 0, 1) := by decide +kernel
theorem dX0_init__1 : decode cX0_init_ 1 = .ok (.invokespecial 3, 3) := by decide +kernel
theorem dX0_init__4 : decode cX0_init_ 4 = .ok (.aload_n 0, 1) := by decide +kernel
theorem dX0_init__5 : decode cX0_init_ 5 = .ok (.aload_n 1, 1) := by decide +kernel
theorem dX0_init__6 : decode cX0_init_ 6 = .ok (.getfield 9, 3) := by decide +kernel
theorem dX0_init__9 : decode cX0_init_ 9 = .ok (.iconst 1, 1) := by decide +kernel
theorem dX0_init__10 : decode cX0_init_ 10 = .ok (.iadd, 1) := by decide +kernel
theorem dX0_init__11 : decode cX0_init_ 11 = .ok (.putfield 9, 3) := by decide +kernel
theorem dX0_init__14 : decode cX0_init_ 14 = .ok (.aload_n 0, 1) := by decide +kernel
theorem dX0_init__15 : decode cX0_init_ 15 = .ok (.aload_n 1, 1) := by decide +kernel
theorem dX0_init__16 : decode cX0_init_ 16 = .ok (.getfield 15, 3) := by decide +kernel
theorem dX0_init__19 : decode cX0_init_ 19 = .ok (.aload_n 0, 1) := by decide +kernel
theorem dX0_init__20 : decode cX0_init_ 20 = .ok (.getfield 9, 3) := by decide +kernel
theorem dX0_init__23 : decode cX0_init_ 23 = .ok (.imul, 1) := by decide +kernel
theorem dX0_init__24 : decode cX0_init_ 24 = .ok (.putfield 15, 3) := by decide +kernel
theorem dX0_init__27 : decode cX0_init_ 27 = .ok (.aload_n 0, 1) := by decide +kernel
theorem dX0_init__28 : decode cX0_init_ 28 = .ok (.aload_n 0, 1) := by decide +kernel
theorem dX0_init__29 : decode cX0_init_ 29 = .ok (.getfield 15, 3) := by decide +kernel
theorem dX0_init__32 : decode cX0_init_ 32 = .ok (.aload_n 0, 1) := by decide +kernel
theorem dX0_init__33 : decode cX0_init_ 33 = .ok (.getfield 9, 3) := by decide +kernel
theorem dX0_init__36 : decode cX0_init_ 36 = .ok (.imul, 1) := by decide +kernel
theorem dX0_init__37 : decode cX0_init_ 37 = .ok (.newarray .int, 2) := by decide +kernel
theorem dX0_init__39 : decode cX0_init_ 39 = .ok (.putfield 18, 3) := by decide +kernel
theorem dX0_init__42 : decode cX0_init_ 42 = .ok (.aload_n 0, 1) := by decide +kernel
theorem dX0_init__43 : decode cX0_init_ 43 = .ok (.aload_n 0, 1) := by decide +kernel
theorem dX0_init__44 : decode cX0_init_ 44 = .ok (.getfield 15, 3) := by decide +kernel
theorem dX0_init__47 : decode cX0_init_ 47 = .ok (.newarray .int, 2) := by decide +kernel
theorem dX0_init__49 : decode cX0_init_ 49 = .ok (.putfield 22, 3) := by decide +kernel
theorem dX0_init__52 : decode cX0_init_ 52 = .ok (.aload_n 0, 1) := by decide +kernel
theorem dX0_init__53 : decode cX0_init_ 53 = .ok (.aload_n 0, 1) := by decide +kernel
theorem dX0_init__54 : decode cX0_init_ 54 = .ok (.getfield 15, 3) := by decide +kernel
theorem dX0_init__57 : decode cX0_init_ 57 = .ok (.newarray .int, 2) := by decide +kernel
theorem dX0_init__59 : decode cX0_init_ 59 = .ok (.putfield 25, 3) := by decide +kernel
theorem dX0_init__62 : decode cX0_init_ 62 = .ok (.iconst 0, 1) := by decide +kernel
theorem dX0_init__63 : decode cX0_init_ 63 = .ok (.istore_n 2, 1) := by decide +kernel
theorem dX0_init__64 : decode cX0_init_ 64 = .ok (.iload_n 2, 1) := by decide +kernel
theorem dX0_init__65 : decode cX0_init_ 65 = .ok (.aload_n 1, 1) := by decide +kernel
theorem dX0_init__66 : decode cX0_init_ 66 = .ok (.getfield 15, 3) := by decide +kernel
theorem dX0_init__69 : decode cX0_init_ 69 = .ok (.if_icmp .ge 96, 3) := by decide +kernel
theorem dX0_init__72 : decode cX0_init_ 72 = .ok (.iconst 0, 1) := by decide +kernel
theorem dX0_init__73 : decode cX0_init_ 73 = .ok (.istore_n 3, 1) := by decide +kernel
theorem dX0_init__74 : decode cX0_init_ 74 = .ok (.iload_n 3, 1) := by decide +kernel
theorem dX0_init__75 : decode cX0_init_ 75 = .ok (.aload_n 0, 1) := by decide +kernel
theorem dX0_init__76 : decode cX0_init_ 76 = .ok (.getfield 9, 3) := by decide +kernel
theorem dX0_init__79 : decode cX0_init_ 79 = .ok (.if_icmp .ge 80, 3) := by decide +kernel
theorem dX0_init__82 : decode cX0_init_ 82 = .ok (.iload_n 2, 1) := by decide +kernel
theorem dX0_init__83 : decode cX0_init_ 83 = .ok (.aload_n 0, 1) := by decide +kernel
theorem dX0_init__84 : decode cX0_init_ 84 = .ok (.getfield 9, 3) := by decide +kernel
theorem dX0_init__87 : decode cX0_init_ 87 = .ok (.imul, 1) := by decide +kernel
theorem dX0_init__88 : decode cX0_init_ 88 = .ok (.iload_n 3, 1) := by decide +kernel
theorem dX0_init__89 : decode cX0_init_ 89 = .ok (.iadd, 1) := by decide +kernel
theorem dX0_init__90 : decode cX0_init_ 90 = .ok (.istore 4, 2) := by decide +kernel
theorem dX0_init__92 : decode cX0_init_ 92 = .ok (.aload_n 0, 1) := by decide +kernel
theorem dX0_init__93 : decode cX0_init_ 93 = .ok (.aload_n 1, 1) := by decide +kernel
theorem dX0_init__94 : decode cX0_init_ 94 = .ok (.iload_n 2, 1) := by decide +kernel
theorem dX0_init__95 : decode cX0_init_ 95 = .ok (.iload 4, 2) := by decide +kernel
theorem dX0_init__97 : decode cX0_init_ 97 = .ok (.iload_n 2, 1) := by decide +kernel
theorem dX0_init__98 : decode cX0_init_ 98 = .ok (.iconst 2, 1) := by decide +kernel
theorem dX0_init__99 : decode cX0_init_ 99 = .ok (.irem, 1) := by decide +kernel
theorem dX0_init__100 : decode cX0_init_ 100 = .ok (.ifCond .ne 14, 3) := by decide +kernel
theorem dX0_init__103 : decode cX0_init_ 103 = .ok (.aload_n 0, 1) := by decide +kernel
theorem dX0_init__104 : decode cX0_init_ 104 = .ok (.getfield 9, 3) := by decide +kernel
theorem dX0_init__107 : decode cX0_init_ 107 = .ok (.iconst 1, 1) := by decide +kernel
theorem dX0_init__108 : decode cX0_init_ 108 = .ok (.isub, 1) := by decide +kernel
theorem dX0_init__109 : decode cX0_init_ 109 = .ok (.iload_n 3, 1) := by decide +kernel
theorem dX0_init__110 : decode cX0_init_ 110 = .ok (.isub, 1) := by decide +kernel
theorem dX0_init__111 : decode cX0_init_ 111 = .ok (.goto 4, 3) := by decide +kernel
theorem dX0_init__114 : decode cX0_init_ 114 = .ok (.iload_n 3, 1) := by decide +kernel
theorem dX0_init__115 : decode cX0_init_ 115 = .ok (.invokevirtual 28, 3) := by decide +kernel
theorem dX0_init__118 : decode cX0_init_ 118 = .ok (.aload_n 0, 1) := by decide +kernel
theorem dX0_init__119 : decode cX0_init_ 119 = .ok (.getfield 22, 3) := by decide +kernel
theorem dX0_init__122 : decode cX0_init_ 122 = .ok (.iload 4, 2) := by decide +kernel
theorem dX0_init__124 : decode cX0_init_ 124 = .ok (.iload 4, 2) := by decide +kernel
theorem dX0_init__126 : decode cX0_init_ 126 = .ok (.ifCond .ne 7, 3) := by decide +kernel
theorem dX0_init__129 : decode cX0_init_ 129 = .ok (.iconst 0, 1) := by decide +kernel
theorem dX0_init__130 : decode cX0_init_ 130 = .ok (.goto 9, 3) := by decide +kernel
theorem dX0_init__133 : decode cX0_init_ 133 = .ok (.aload_n 0, 1) := by decide +kernel
theorem dX0_init__134 : decode cX0_init_ 134 = .ok (.iload 4, 2) := by decide +kernel
theorem dX0_init__136 : decode cX0_init_ 136 = .ok (.invokevirtual 32, 3) := by decide +kernel
theorem dX0_init__139 : decode cX0_init_ 139 = .ok (.iastore, 1) := by decide +kernel
theorem dX0_init__140 : decode cX0_init_ 140 = .ok (.aload_n 0, 1) := by decide +kernel
theorem dX0_init__141 : decode cX0_init_ 141 = .ok (.getfield 25, 3) := by decide +kernel
theorem dX0_init__144 : decode cX0_init_ 144 = .ok (.iload 4, 2) := by decide +kernel
theorem dX0_init__146 : decode cX0_init_ 146 = .ok (.aload_n 0, 1) := by decide +kernel
theorem dX0_init__147 : decode cX0_init_ 147 = .ok (.iload 4, 2) := by decide +kernel
theorem dX0_init__149 : decode cX0_init_ 149 = .ok (.invokevirtual 36, 3) := by decide +kernel
theorem dX0_init__152 : decode cX0_init_ 152 = .ok (.iastore, 1) := by decide +kernel
theorem dX0_init__153 : decode cX0_init_ 153 = .ok (.iinc 3 1, 3) := by decide +kernel
theorem dX0_init__156 : decode cX0_init_ 156 = .ok (.goto (-82), 3) := by decide +kernel
theorem dX0_init__159 : decode cX0_init_ 159 = .ok (.iinc 2 1, 3) := by decide +kernel
theorem dX0_init__162 : decode cX0_init_ 162 = .ok (.goto (-98), 3) := by decide +kernel
theorem dX0_init__165 : decode cX0_init_ 165 = .ok (.return_, 1) := by decide +kernel
theorem dX0_number_0 : decode cX0_number 0 = .ok (.aload_n 0, 1) := by decide +kernel
theorem dX0_number_1 : decode cX0_number 1 = .ok (.getfield 15, 3) := by decide +kernel
theorem dX0_number_4 : decode cX0_number 4 = .ok (.ireturn, 1) := by decide +kernel
theorem dX0_thingAt_0 : decode cX0_thingAt 0 = .ok (.aload_n 0, 1) := by decide +kernel
theorem dX0_thingAt_1 : decode cX0_thingAt 1 = .ok (.getfield 18, 3) := by decide +kernel
theorem dX0_thingAt_4 : decode cX0_thingAt 4 = .ok (.iload_n 1, 1) := by decide +kernel
theorem dX0_thingAt_5 : decode cX0_thingAt 5 = .ok (.aload_n 0, 1) := by decide +kernel
theorem dX0_thingAt_6 : decode cX0_thingAt 6 = .ok (.getfield 9, 3) := by decide +kernel
theorem dX0_thingAt_9 : decode cX0_thingAt 9 = .ok (.imul, 1) := by decide +kernel
theorem dX0_thingAt_10 : decode cX0_thingAt 10 = .ok (.iload_n 2, 1) := by decide +kernel
theorem dX0_thingAt_11 : decode cX0_thingAt 11 = .ok (.iadd, 1) := by decide +kernel
theorem dX0_thingAt_12 : decode cX0_thingAt 12 = .ok (.iaload, 1) := by decide +kernel
theorem dX0_thingAt_13 : decode cX0_thingAt 13 = .ok (.ireturn, 1) := by decide +kernel
theorem dX0_exchanged_0 : decode cX0_exchanged 0 = .ok (.aload_n 0, 1) := by decide +kernel
theorem dX0_exchanged_1 : decode cX0_exchanged 1 = .ok (.getfield 22, 3) := by decide +kernel
theorem dX0_exchanged_4 : decode cX0_exchanged 4 = .ok (.areturn, 1) := by decide +kernel
theorem dX0_rankAt_0 : decode cX0_rankAt 0 = .ok (.aload_n 0, 1) := by decide +kernel
theorem dX0_rankAt_1 : decode cX0_rankAt 1 = .ok (.getfield 25, 3) := by decide +kernel
theorem dX0_rankAt_4 : decode cX0_rankAt 4 = .ok (.iload_n 1, 1) := by decide +kernel
theorem dX0_rankAt_5 : decode cX0_rankAt 5 = .ok (.iaload, 1) := by decide +kernel
theorem dX0_rankAt_6 : decode cX0_rankAt 6 = .ok (.ireturn, 1) := by decide +kernel
theorem dX0_insert_0 : decode cX0_insert 0 = .ok (.iconst 0, 1) := by decide +kernel
theorem dX0_insert_1 : decode cX0_insert 1 = .ok (.istore 5, 2) := by decide +kernel
theorem dX0_insert_3 : decode cX0_insert 3 = .ok (.iload 5, 2) := by decide +kernel
theorem dX0_insert_5 : decode cX0_insert 5 = .ok (.aload_n 0, 1) := by decide +kernel
theorem dX0_insert_6 : decode cX0_insert 6 = .ok (.getfield 9, 3) := by decide +kernel
theorem dX0_insert_9 : decode cX0_insert 9 = .ok (.if_icmp .ge 63, 3) := by decide +kernel
theorem dX0_insert_12 : decode cX0_insert 12 = .ok (.aload_n 0, 1) := by decide +kernel
theorem dX0_insert_13 : decode cX0_insert 13 = .ok (.getfield 9, 3) := by decide +kernel
theorem dX0_insert_16 : decode cX0_insert 16 = .ok (.iconst 1, 1) := by decide +kernel
theorem dX0_insert_17 : decode cX0_insert 17 = .ok (.isub, 1) := by decide +kernel
theorem dX0_insert_18 : decode cX0_insert 18 = .ok (.istore 6, 2) := by decide +kernel
theorem dX0_insert_20 : decode cX0_insert 20 = .ok (.iload 5, 2) := by decide +kernel
theorem dX0_insert_22 : decode cX0_insert 22 = .ok (.iload 4, 2) := by decide +kernel
theorem dX0_insert_24 : decode cX0_insert 24 = .ok (.if_icmp .eq 26, 3) := by decide +kernel
theorem dX0_insert_27 : decode cX0_insert 27 = .ok (.aload_n 1, 1) := by decide +kernel
theorem dX0_insert_28 : decode cX0_insert 28 = .ok (.iload_n 2, 1) := by decide +kernel
theorem dX0_insert_29 : decode cX0_insert 29 = .ok (.iload 5, 2) := by decide +kernel
theorem dX0_insert_31 : decode cX0_insert 31 = .ok (.iload 4, 2) := by decide +kernel
theorem dX0_insert_33 : decode cX0_insert 33 = .ok (.if_icmp .ge 8, 3) := by decide +kernel
theorem dX0_insert_36 : decode cX0_insert 36 = .ok (.iload 5, 2) := by decide +kernel
theorem dX0_insert_38 : decode cX0_insert 38 = .ok (.goto 7, 3) := by decide +kernel
theorem dX0_insert_41 : decode cX0_insert 41 = .ok (.iload 5, 2) := by decide +kernel
theorem dX0_insert_43 : decode cX0_insert 43 = .ok (.iconst 1, 1) := by decide +kernel
theorem dX0_insert_44 : decode cX0_insert 44 = .ok (.isub, 1) := by decide +kernel
theorem dX0_insert_45 : decode cX0_insert 45 = .ok (.invokevirtual 39, 3) := by decide +kernel
theorem dX0_insert_48 : decode cX0_insert 48 = .ok (.istore 6, 2) := by decide +kernel
theorem dX0_insert_50 : decode cX0_insert 50 = .ok (.aload_n 0, 1) := by decide +kernel
theorem dX0_insert_51 : decode cX0_insert 51 = .ok (.getfield 18, 3) := by decide +kernel
theorem dX0_insert_54 : decode cX0_insert 54 = .ok (.iload_n 3, 1) := by decide +kernel
theorem dX0_insert_55 : decode cX0_insert 55 = .ok (.aload_n 0, 1) := by decide +kernel
theorem dX0_insert_56 : decode cX0_insert 56 = .ok (.getfield 9, 3) := by decide +kernel
theorem dX0_insert_59 : decode cX0_insert 59 = .ok (.imul, 1) := by decide +kernel
theorem dX0_insert_60 : decode cX0_insert 60 = .ok (.iload 5, 2) := by decide +kernel
theorem dX0_insert_62 : decode cX0_insert 62 = .ok (.iadd, 1) := by decide +kernel
theorem dX0_insert_63 : decode cX0_insert 63 = .ok (.iload 6, 2) := by decide +kernel
theorem dX0_insert_65 : decode cX0_insert 65 = .ok (.iastore, 1) := by decide +kernel
theorem dX0_insert_66 : decode cX0_insert 66 = .ok (.iinc 5 1, 3) := by decide +kernel
theorem dX0_insert_69 : decode cX0_insert 69 = .ok (.goto (-66), 3) := by decide +kernel
theorem dX0_insert_72 : decode cX0_insert 72 = .ok (.return_, 1) := by decide +kernel
theorem dX0_exchangeBefore_0 : decode cX0_exchangeBefore 0 = .ok (.iconst 0, 1) := by decide +kernel
theorem dX0_exchangeBefore_1 : decode cX0_exchangeBefore 1 = .ok (.istore_n 2, 1) := by decide +kernel
theorem dX0_exchangeBefore_2 : decode cX0_exchangeBefore 2 = .ok (.iload_n 2, 1) := by decide +kernel
theorem dX0_exchangeBefore_3 : decode cX0_exchangeBefore 3 = .ok (.aload_n 0, 1) := by decide +kernel
theorem dX0_exchangeBefore_4 : decode cX0_exchangeBefore 4 = .ok (.getfield 9, 3) := by decide +kernel
theorem dX0_exchangeBefore_7 : decode cX0_exchangeBefore 7 = .ok (.iconst 1, 1) := by decide +kernel
theorem dX0_exchangeBefore_8 : decode cX0_exchangeBefore 8 = .ok (.isub, 1) := by decide +kernel
theorem dX0_exchangeBefore_9 : decode cX0_exchangeBefore 9 = .ok (.if_icmp .ge 44, 3) := by decide +kernel
theorem dX0_exchangeBefore_12 : decode cX0_exchangeBefore 12 = .ok (.aload_n 0, 1) := by decide +kernel
theorem dX0_exchangeBefore_13 : decode cX0_exchangeBefore 13 = .ok (.iload_n 1, 1) := by decide +kernel
theorem dX0_exchangeBefore_14 : decode cX0_exchangeBefore 14 = .ok (.iconst 1, 1) := by decide +kernel
theorem dX0_exchangeBefore_15 : decode cX0_exchangeBefore 15 = .ok (.isub, 1) := by decide +kernel
theorem dX0_exchangeBefore_16 : decode cX0_exchangeBefore 16 = .ok (.iload_n 2, 1) := by decide +kernel
theorem dX0_exchangeBefore_17 : decode cX0_exchangeBefore 17 = .ok (.invokevirtual 39, 3) := by decide +kernel
theorem dX0_exchangeBefore_20 : decode cX0_exchangeBefore 20 = .ok (.aload_n 0, 1) := by decide +kernel
theorem dX0_exchangeBefore_21 : decode cX0_exchangeBefore 21 = .ok (.iload_n 1, 1) := by decide +kernel
theorem dX0_exchangeBefore_22 : decode cX0_exchangeBefore 22 = .ok (.iload_n 2, 1) := by decide +kernel
theorem dX0_exchangeBefore_23 : decode cX0_exchangeBefore 23 = .ok (.invokevirtual 39, 3) := by decide +kernel
theorem dX0_exchangeBefore_26 : decode cX0_exchangeBefore 26 = .ok (.if_icmp .eq 21, 3) := by decide +kernel
theorem dX0_exchangeBefore_29 : decode cX0_exchangeBefore 29 = .ok (.aload_n 0, 1) := by decide +kernel
theorem dX0_exchangeBefore_30 : decode cX0_exchangeBefore 30 = .ok (.iload_n 1, 1) := by decide +kernel
theorem dX0_exchangeBefore_31 : decode cX0_exchangeBefore 31 = .ok (.iconst 1, 1) := by decide +kernel
theorem dX0_exchangeBefore_32 : decode cX0_exchangeBefore 32 = .ok (.isub, 1) := by decide +kernel
theorem dX0_exchangeBefore_33 : decode cX0_exchangeBefore 33 = .ok (.iload_n 2, 1) := by decide +kernel
theorem dX0_exchangeBefore_34 : decode cX0_exchangeBefore 34 = .ok (.invokevirtual 39, 3) := by decide +kernel
theorem dX0_exchangeBefore_37 : decode cX0_exchangeBefore 37 = .ok (.aload_n 0, 1) := by decide +kernel
theorem dX0_exchangeBefore_38 : decode cX0_exchangeBefore 38 = .ok (.iload_n 1, 1) := by decide +kernel
theorem dX0_exchangeBefore_39 : decode cX0_exchangeBefore 39 = .ok (.iload_n 2, 1) := by decide +kernel
theorem dX0_exchangeBefore_40 : decode cX0_exchangeBefore 40 = .ok (.invokevirtual 39, 3) := by decide +kernel
theorem dX0_exchangeBefore_43 : decode cX0_exchangeBefore 43 = .ok (.invokestatic 43, 3) := by decide +kernel
theorem dX0_exchangeBefore_46 : decode cX0_exchangeBefore 46 = .ok (.ireturn, 1) := by decide +kernel
theorem dX0_exchangeBefore_47 : decode cX0_exchangeBefore 47 = .ok (.iinc 2 1, 3) := by decide +kernel
theorem dX0_exchangeBefore_50 : decode cX0_exchangeBefore 50 = .ok (.goto (-48), 3) := by decide +kernel
theorem dX0_exchangeBefore_53 : decode cX0_exchangeBefore 53 = .ok (.iconst 0, 1) := by decide +kernel
theorem dX0_exchangeBefore_54 : decode cX0_exchangeBefore 54 = .ok (.ireturn, 1) := by decide +kernel
theorem dX0_rankOf_0 : decode cX0_rankOf 0 = .ok (.iconst 0, 1) := by decide +kernel
theorem dX0_rankOf_1 : decode cX0_rankOf 1 = .ok (.istore_n 2, 1) := by decide +kernel
theorem dX0_rankOf_2 : decode cX0_rankOf 2 = .ok (.iconst 0, 1) := by decide +kernel
theorem dX0_rankOf_3 : decode cX0_rankOf 3 = .ok (.istore_n 3, 1) := by decide +kernel
theorem dX0_rankOf_4 : decode cX0_rankOf 4 = .ok (.iload_n 3, 1) := by decide +kernel
theorem dX0_rankOf_5 : decode cX0_rankOf 5 = .ok (.aload_n 0, 1) := by decide +kernel
theorem dX0_rankOf_6 : decode cX0_rankOf 6 = .ok (.getfield 9, 3) := by decide +kernel
theorem dX0_rankOf_9 : decode cX0_rankOf 9 = .ok (.if_icmp .ge 20, 3) := by decide +kernel
theorem dX0_rankOf_12 : decode cX0_rankOf 12 = .ok (.iload_n 2, 1) := by decide +kernel
theorem dX0_rankOf_13 : decode cX0_rankOf 13 = .ok (.iconst 5, 1) := by decide +kernel
theorem dX0_rankOf_14 : decode cX0_rankOf 14 = .ok (.imul, 1) := by decide +kernel
theorem dX0_rankOf_15 : decode cX0_rankOf 15 = .ok (.aload_n 0, 1) := by decide +kernel
theorem dX0_rankOf_16 : decode cX0_rankOf 16 = .ok (.iload_n 1, 1) := by decide +kernel
theorem dX0_rankOf_17 : decode cX0_rankOf 17 = .ok (.iload_n 3, 1) := by decide +kernel
theorem dX0_rankOf_18 : decode cX0_rankOf 18 = .ok (.invokevirtual 39, 3) := by decide +kernel
theorem dX0_rankOf_21 : decode cX0_rankOf 21 = .ok (.iadd, 1) := by decide +kernel
theorem dX0_rankOf_22 : decode cX0_rankOf 22 = .ok (.istore_n 2, 1) := by decide +kernel
theorem dX0_rankOf_23 : decode cX0_rankOf 23 = .ok (.iinc 3 1, 3) := by decide +kernel
theorem dX0_rankOf_26 : decode cX0_rankOf 26 = .ok (.goto (-22), 3) := by decide +kernel
theorem dX0_rankOf_29 : decode cX0_rankOf 29 = .ok (.iload_n 2, 1) := by decide +kernel
theorem dX0_rankOf_30 : decode cX0_rankOf 30 = .ok (.ireturn, 1) := by decide +kernel
theorem dX1_init_0 : decode cX1_init 0 = .ok (.aload_n 0, 1) := by decide +kernel
theorem dX1_init_1 : decode cX1_init 1 = .ok (.invokespecial 3, 3) := by decide +kernel
theorem dX1_init_4 : decode cX1_init 4 = .ok (.aload_n 0, 1) := by decide +kernel
theorem dX1_init_5 : decode cX1_init 5 = .ok (.aload_n 1, 1) := by decide +kernel
theorem dX1_init_6 : decode cX1_init 6 = .ok (.putfield 9, 3) := by decide +kernel
theorem dX1_init_9 : decode cX1_init 9 = .ok (.aload_n 0, 1) := by decide +kernel
theorem dX1_init_10 : decode cX1_init 10 = .ok (.aload_n 2, 1) := by decide +kernel
theorem dX1_init_11 : decode cX1_init 11 = .ok (.putfield 15, 3) := by decide +kernel
theorem dX1_init_14 : decode cX1_init 14 = .ok (.return_, 1) := by decide +kernel
theorem dX1_sizeOf_0 : decode cX1_sizeOf 0 = .ok (.iload_n 1, 1) := by decide +kernel
theorem dX1_sizeOf_1 : decode cX1_sizeOf 1 = .ok (.invokestatic 19, 3) := by decide +kernel
theorem dX1_sizeOf_4 : decode cX1_sizeOf 4 = .ok (.ifCond .ne 24, 3) := by decide +kernel
theorem dX1_sizeOf_7 : decode cX1_sizeOf 7 = .ok (.iload_n 1, 1) := by decide +kernel
theorem dX1_sizeOf_8 : decode cX1_sizeOf 8 = .ok (.bipush 100, 2) := by decide +kernel
theorem dX1_sizeOf_10 : decode cX1_sizeOf 10 = .ok (.isub, 1) := by decide +kernel
theorem dX1_sizeOf_11 : decode cX1_sizeOf 11 = .ok (.istore_n 2, 1) := by decide +kernel
theorem dX1_sizeOf_12 : decode cX1_sizeOf 12 = .ok (.aload_n 0, 1) := by decide +kernel
theorem dX1_sizeOf_13 : decode cX1_sizeOf 13 = .ok (.getfield 9, 3) := by decide +kernel
theorem dX1_sizeOf_16 : decode cX1_sizeOf 16 = .ok (.iload_n 2, 1) := by decide +kernel
theorem dX1_sizeOf_17 : decode cX1_sizeOf 17 = .ok (.bipush 10, 2) := by decide +kernel
theorem dX1_sizeOf_19 : decode cX1_sizeOf 19 = .ok (.idiv, 1) := by decide +kernel
theorem dX1_sizeOf_20 : decode cX1_sizeOf 20 = .ok (.iload_n 2, 1) := by decide +kernel
theorem dX1_sizeOf_21 : decode cX1_sizeOf 21 = .ok (.bipush 10, 2) := by decide +kernel
theorem dX1_sizeOf_23 : decode cX1_sizeOf 23 = .ok (.irem, 1) := by decide +kernel
theorem dX1_sizeOf_24 : decode cX1_sizeOf 24 = .ok (.invokevirtual 23, 3) := by decide +kernel
theorem dX1_sizeOf_27 : decode cX1_sizeOf 27 = .ok (.ireturn, 1) := by decide +kernel
theorem dX1_sizeOf_28 : decode cX1_sizeOf 28 = .ok (.iconst 0, 1) := by decide +kernel
theorem dX1_sizeOf_29 : decode cX1_sizeOf 29 = .ok (.istore_n 2, 1) := by decide +kernel
theorem dX1_sizeOf_30 : decode cX1_sizeOf 30 = .ok (.iconst 0, 1) := by decide +kernel
theorem dX1_sizeOf_31 : decode cX1_sizeOf 31 = .ok (.istore_n 3, 1) := by decide +kernel
theorem dX1_sizeOf_32 : decode cX1_sizeOf 32 = .ok (.iconst 0, 1) := by decide +kernel
theorem dX1_sizeOf_33 : decode cX1_sizeOf 33 = .ok (.istore 4, 2) := by decide +kernel
theorem dX1_sizeOf_35 : decode cX1_sizeOf 35 = .ok (.iload 4, 2) := by decide +kernel
theorem dX1_sizeOf_37 : decode cX1_sizeOf 37 = .ok (.bipush 10, 2) := by decide +kernel
theorem dX1_sizeOf_39 : decode cX1_sizeOf 39 = .ok (.if_icmp .ge 35, 3) := by decide +kernel
theorem dX1_sizeOf_42 : decode cX1_sizeOf 42 = .ok (.iload_n 2, 1) := by decide +kernel
theorem dX1_sizeOf_43 : decode cX1_sizeOf 43 = .ok (.aload_n 0, 1) := by decide +kernel
theorem dX1_sizeOf_44 : decode cX1_sizeOf 44 = .ok (.getfield 9, 3) := by decide +kernel
theorem dX1_sizeOf_47 : decode cX1_sizeOf 47 = .ok (.iload 4, 2) := by decide +kernel
theorem dX1_sizeOf_49 : decode cX1_sizeOf 49 = .ok (.iload_n 1, 1) := by decide +kernel
theorem dX1_sizeOf_50 : decode cX1_sizeOf 50 = .ok (.invokevirtual 23, 3) := by decide +kernel
theorem dX1_sizeOf_53 : decode cX1_sizeOf 53 = .ok (.iadd, 1) := by decide +kernel
theorem dX1_sizeOf_54 : decode cX1_sizeOf 54 = .ok (.istore_n 2, 1) := by decide +kernel
theorem dX1_sizeOf_55 : decode cX1_sizeOf 55 = .ok (.iload_n 3, 1) := by decide +kernel
theorem dX1_sizeOf_56 : decode cX1_sizeOf 56 = .ok (.aload_n 0, 1) := by decide +kernel
theorem dX1_sizeOf_57 : decode cX1_sizeOf 57 = .ok (.getfield 9, 3) := by decide +kernel
theorem dX1_sizeOf_60 : decode cX1_sizeOf 60 = .ok (.iload_n 1, 1) := by decide +kernel
theorem dX1_sizeOf_61 : decode cX1_sizeOf 61 = .ok (.iload 4, 2) := by decide +kernel
theorem dX1_sizeOf_63 : decode cX1_sizeOf 63 = .ok (.invokevirtual 23, 3) := by decide +kernel
theorem dX1_sizeOf_66 : decode cX1_sizeOf 66 = .ok (.iadd, 1) := by decide +kernel
theorem dX1_sizeOf_67 : decode cX1_sizeOf 67 = .ok (.istore_n 3, 1) := by decide +kernel
theorem dX1_sizeOf_68 : decode cX1_sizeOf 68 = .ok (.iinc 4 1, 3) := by decide +kernel
theorem dX1_sizeOf_71 : decode cX1_sizeOf 71 = .ok (.goto (-36), 3) := by decide +kernel
theorem dX1_sizeOf_74 : decode cX1_sizeOf 74 = .ok (.iconst 1, 1) := by decide +kernel
theorem dX1_sizeOf_75 : decode cX1_sizeOf 75 = .ok (.iload_n 2, 1) := by decide +kernel
theorem dX1_sizeOf_76 : decode cX1_sizeOf 76 = .ok (.iload_n 3, 1) := by decide +kernel
theorem dX1_sizeOf_77 : decode cX1_sizeOf 77 = .ok (.invokestatic 29, 3) := by decide +kernel
theorem dX1_sizeOf_80 : decode cX1_sizeOf 80 = .ok (.invokestatic 29, 3) := by decide +kernel
theorem dX1_sizeOf_83 : decode cX1_sizeOf 83 = .ok (.ireturn, 1) := by decide +kernel
theorem dX1_topOf_0 : decode cX1_topOf 0 = .ok (.aload_n 0, 1) := by decide +kernel
theorem dX1_topOf_1 : decode cX1_topOf 1 = .ok (.getfield 15, 3) := by decide +kernel
theorem dX1_topOf_4 : decode cX1_topOf 4 = .ok (.iload_n 1, 1) := by decide +kernel
theorem dX1_topOf_5 : decode cX1_topOf 5 = .ok (.iload_n 2, 1) := by decide +kernel
theorem dX1_topOf_6 : decode cX1_topOf 6 = .ok (.invokevirtual 34, 3) := by decide +kernel
theorem dX1_topOf_9 : decode cX1_topOf 9 = .ok (.istore 4, 2) := by decide +kernel
theorem dX1_topOf_11 : decode cX1_topOf 11 = .ok (.iconst 0, 1) := by decide +kernel
theorem dX1_topOf_12 : decode cX1_topOf 12 = .ok (.istore 5, 2) := by decide +kernel
theorem dX1_topOf_14 : decode cX1_topOf 14 = .ok (.iconst 0, 1) := by decide +kernel
theorem dX1_topOf_15 : decode cX1_topOf 15 = .ok (.istore 6, 2) := by decide +kernel
theorem dX1_topOf_17 : decode cX1_topOf 17 = .ok (.iload 6, 2) := by decide +kernel
theorem dX1_topOf_19 : decode cX1_topOf 19 = .ok (.iload 4, 2) := by decide +kernel
theorem dX1_topOf_21 : decode cX1_topOf 21 = .ok (.if_icmp .ge 30, 3) := by decide +kernel
theorem dX1_topOf_24 : decode cX1_topOf 24 = .ok (.iload 5, 2) := by decide +kernel
theorem dX1_topOf_26 : decode cX1_topOf 26 = .ok (.aload_n 0, 1) := by decide +kernel
theorem dX1_topOf_27 : decode cX1_topOf 27 = .ok (.aload_n 0, 1) := by decide +kernel
theorem dX1_topOf_28 : decode cX1_topOf 28 = .ok (.getfield 15, 3) := by decide +kernel
theorem dX1_topOf_31 : decode cX1_topOf 31 = .ok (.iload_n 1, 1) := by decide +kernel
theorem dX1_topOf_32 : decode cX1_topOf 32 = .ok (.iload 6, 2) := by decide +kernel
theorem dX1_topOf_34 : decode cX1_topOf 34 = .ok (.invokevirtual 39, 3) := by decide +kernel
theorem dX1_topOf_37 : decode cX1_topOf 37 = .ok (.invokevirtual 42, 3) := by decide +kernel
theorem dX1_topOf_40 : decode cX1_topOf 40 = .ok (.iload_n 3, 1) := by decide +kernel
theorem dX1_topOf_41 : decode cX1_topOf 41 = .ok (.iadd, 1) := by decide +kernel
theorem dX1_topOf_42 : decode cX1_topOf 42 = .ok (.iadd, 1) := by decide +kernel
theorem dX1_topOf_43 : decode cX1_topOf 43 = .ok (.istore 5, 2) := by decide +kernel
theorem dX1_topOf_45 : decode cX1_topOf 45 = .ok (.iinc 6 1, 3) := by decide +kernel
theorem dX1_topOf_48 : decode cX1_topOf 48 = .ok (.goto (-31), 3) := by decide +kernel
theorem dX1_topOf_51 : decode cX1_topOf 51 = .ok (.iload 5, 2) := by decide +kernel
theorem dX1_topOf_53 : decode cX1_topOf 53 = .ok (.ireturn, 1) := by decide +kernel
theorem dX1_endOf_0 : decode cX1_endOf 0 = .ok (.iload_n 3, 1) := by decide +kernel
theorem dX1_endOf_1 : decode cX1_endOf 1 = .ok (.aload_n 0, 1) := by decide +kernel
theorem dX1_endOf_2 : decode cX1_endOf 2 = .ok (.getfield 9, 3) := by decide +kernel
theorem dX1_endOf_5 : decode cX1_endOf 5 = .ok (.iload_n 1, 1) := by decide +kernel
theorem dX1_endOf_6 : decode cX1_endOf 6 = .ok (.invokevirtual 46, 3) := by decide +kernel
theorem dX1_endOf_9 : decode cX1_endOf 9 = .ok (.if_icmp .ne 5, 3) := by decide +kernel
theorem dX1_endOf_12 : decode cX1_endOf 12 = .ok (.iconst (-1), 1) := by decide +kernel
theorem dX1_endOf_13 : decode cX1_endOf 13 = .ok (.ireturn, 1) := by decide +kernel
theorem dX1_endOf_14 : decode cX1_endOf 14 = .ok (.aload_n 0, 1) := by decide +kernel
theorem dX1_endOf_15 : decode cX1_endOf 15 = .ok (.iload_n 3, 1) := by decide +kernel
theorem dX1_endOf_16 : decode cX1_endOf 16 = .ok (.aload_n 0, 1) := by decide +kernel
theorem dX1_endOf_17 : decode cX1_endOf 17 = .ok (.getfield 9, 3) := by decide +kernel
theorem dX1_endOf_20 : decode cX1_endOf 20 = .ok (.iload_n 1, 1) := by decide +kernel
theorem dX1_endOf_21 : decode cX1_endOf 21 = .ok (.iload_n 2, 1) := by decide +kernel
theorem dX1_endOf_22 : decode cX1_endOf 22 = .ok (.iload_n 3, 1) := by decide +kernel
theorem dX1_endOf_23 : decode cX1_endOf 23 = .ok (.invokevirtual 49, 3) := by decide +kernel
theorem dX1_endOf_26 : decode cX1_endOf 26 = .ok (.iload 4, 2) := by decide +kernel
theorem dX1_endOf_28 : decode cX1_endOf 28 = .ok (.invokevirtual 53, 3) := by decide +kernel
theorem dX1_endOf_31 : decode cX1_endOf 31 = .ok (.istore 5, 2) := by decide +kernel
theorem dX1_endOf_33 : decode cX1_endOf 33 = .ok (.iload_n 3, 1) := by decide +kernel
theorem dX1_endOf_34 : decode cX1_endOf 34 = .ok (.aload_n 0, 1) := by decide +kernel
theorem dX1_endOf_35 : decode cX1_endOf 35 = .ok (.getfield 9, 3) := by decide +kernel
theorem dX1_endOf_38 : decode cX1_endOf 38 = .ok (.iload_n 2, 1) := by decide +kernel
theorem dX1_endOf_39 : decode cX1_endOf 39 = .ok (.invokevirtual 46, 3) := by decide +kernel
theorem dX1_endOf_42 : decode cX1_endOf 42 = .ok (.if_icmp .eq 6, 3) := by decide +kernel
theorem dX1_endOf_45 : decode cX1_endOf 45 = .ok (.iload 5, 2) := by decide +kernel
theorem dX1_endOf_47 : decode cX1_endOf 47 = .ok (.ireturn, 1) := by decide +kernel
theorem dX1_endOf_48 : decode cX1_endOf 48 = .ok (.aload_n 0, 1) := by decide +kernel
theorem dX1_endOf_49 : decode cX1_endOf 49 = .ok (.getfield 15, 3) := by decide +kernel
theorem dX1_endOf_52 : decode cX1_endOf 52 = .ok (.iload_n 3, 1) := by decide +kernel
theorem dX1_endOf_53 : decode cX1_endOf 53 = .ok (.iconst 1, 1) := by decide +kernel
theorem dX1_endOf_54 : decode cX1_endOf 54 = .ok (.isub, 1) := by decide +kernel
theorem dX1_endOf_55 : decode cX1_endOf 55 = .ok (.aload_n 0, 1) := by decide +kernel
theorem dX1_endOf_56 : decode cX1_endOf 56 = .ok (.getfield 9, 3) := by decide +kernel
theorem dX1_endOf_59 : decode cX1_endOf 59 = .ok (.iload_n 1, 1) := by decide +kernel
theorem dX1_endOf_60 : decode cX1_endOf 60 = .ok (.iload_n 2, 1) := by decide +kernel
theorem dX1_endOf_61 : decode cX1_endOf 61 = .ok (.iload_n 3, 1) := by decide +kernel
theorem dX1_endOf_62 : decode cX1_endOf 62 = .ok (.iconst 1, 1) := by decide +kernel
theorem dX1_endOf_63 : decode cX1_endOf 63 = .ok (.isub, 1) := by decide +kernel
theorem dX1_endOf_64 : decode cX1_endOf 64 = .ok (.invokevirtual 49, 3) := by decide +kernel
theorem dX1_endOf_67 : decode cX1_endOf 67 = .ok (.invokevirtual 34, 3) := by decide +kernel
theorem dX1_endOf_70 : decode cX1_endOf 70 = .ok (.istore 6, 2) := by decide +kernel
theorem dX1_endOf_72 : decode cX1_endOf 72 = .ok (.iconst 0, 1) := by decide +kernel
theorem dX1_endOf_73 : decode cX1_endOf 73 = .ok (.istore 7, 2) := by decide +kernel
theorem dX1_endOf_75 : decode cX1_endOf 75 = .ok (.iload 7, 2) := by decide +kernel
theorem dX1_endOf_77 : decode cX1_endOf 77 = .ok (.bipush 10, 2) := by decide +kernel
theorem dX1_endOf_79 : decode cX1_endOf 79 = .ok (.if_icmp .ge 61, 3) := by decide +kernel
theorem dX1_endOf_82 : decode cX1_endOf 82 = .ok (.aload_n 0, 1) := by decide +kernel
theorem dX1_endOf_83 : decode cX1_endOf 83 = .ok (.getfield 9, 3) := by decide +kernel
theorem dX1_endOf_86 : decode cX1_endOf 86 = .ok (.iload 7, 2) := by decide +kernel
theorem dX1_endOf_88 : decode cX1_endOf 88 = .ok (.iload_n 2, 1) := by decide +kernel
theorem dX1_endOf_89 : decode cX1_endOf 89 = .ok (.invokevirtual 23, 3) := by decide +kernel
theorem dX1_endOf_92 : decode cX1_endOf 92 = .ok (.istore 8, 2) := by decide +kernel
theorem dX1_endOf_94 : decode cX1_endOf 94 = .ok (.iload 8, 2) := by decide +kernel
theorem dX1_endOf_96 : decode cX1_endOf 96 = .ok (.ifCond .le 38, 3) := by decide +kernel
theorem dX1_endOf_99 : decode cX1_endOf 99 = .ok (.aload_n 0, 1) := by decide +kernel
theorem dX1_endOf_100 : decode cX1_endOf 100 = .ok (.getfield 15, 3) := by decide +kernel
theorem dX1_endOf_103 : decode cX1_endOf 103 = .ok (.iload_n 3, 1) := by decide +kernel
theorem dX1_endOf_104 : decode cX1_endOf 104 = .ok (.iconst 1, 1) := by decide +kernel
theorem dX1_endOf_105 : decode cX1_endOf 105 = .ok (.isub, 1) := by decide +kernel
theorem dX1_endOf_106 : decode cX1_endOf 106 = .ok (.aload_n 0, 1) := by decide +kernel
theorem dX1_endOf_107 : decode cX1_endOf 107 = .ok (.getfield 9, 3) := by decide +kernel
theorem dX1_endOf_110 : decode cX1_endOf 110 = .ok (.iload 7, 2) := by decide +kernel
theorem dX1_endOf_112 : decode cX1_endOf 112 = .ok (.iload_n 2, 1) := by decide +kernel
theorem dX1_endOf_113 : decode cX1_endOf 113 = .ok (.iload_n 3, 1) := by decide +kernel
theorem dX1_endOf_114 : decode cX1_endOf 114 = .ok (.iconst 1, 1) := by decide +kernel
theorem dX1_endOf_115 : decode cX1_endOf 115 = .ok (.isub, 1) := by decide +kernel
theorem dX1_endOf_116 : decode cX1_endOf 116 = .ok (.invokevirtual 49, 3) := by decide +kernel
theorem dX1_endOf_119 : decode cX1_endOf 119 = .ok (.invokevirtual 34, 3) := by decide +kernel
theorem dX1_endOf_122 : decode cX1_endOf 122 = .ok (.iload 6, 2) := by decide +kernel
theorem dX1_endOf_124 : decode cX1_endOf 124 = .ok (.if_icmp .ge 10, 3) := by decide +kernel
theorem dX1_endOf_127 : decode cX1_endOf 127 = .ok (.iload 5, 2) := by decide +kernel
theorem dX1_endOf_129 : decode cX1_endOf 129 = .ok (.iload 8, 2) := by decide +kernel
theorem dX1_endOf_131 : decode cX1_endOf 131 = .ok (.iadd, 1) := by decide +kernel
theorem dX1_endOf_132 : decode cX1_endOf 132 = .ok (.istore 5, 2) := by decide +kernel
theorem dX1_endOf_134 : decode cX1_endOf 134 = .ok (.iinc 7 1, 3) := by decide +kernel
theorem dX1_endOf_137 : decode cX1_endOf 137 = .ok (.goto (-62), 3) := by decide +kernel
theorem dX1_endOf_140 : decode cX1_endOf 140 = .ok (.iload 5, 2) := by decide +kernel
theorem dX1_endOf_142 : decode cX1_endOf 142 = .ok (.ireturn, 1) := by decide +kernel
theorem dX1_beginOf_0 : decode cX1_beginOf 0 = .ok (.iload_n 3, 1) := by decide +kernel
theorem dX1_beginOf_1 : decode cX1_beginOf 1 = .ok (.aload_n 0, 1) := by decide +kernel
theorem dX1_beginOf_2 : decode cX1_beginOf 2 = .ok (.getfield 9, 3) := by decide +kernel
theorem dX1_beginOf_5 : decode cX1_beginOf 5 = .ok (.iload_n 2, 1) := by decide +kernel
theorem dX1_beginOf_6 : decode cX1_beginOf 6 = .ok (.invokevirtual 46, 3) := by decide +kernel
theorem dX1_beginOf_9 : decode cX1_beginOf 9 = .ok (.if_icmp .ne 5, 3) := by decide +kernel
theorem dX1_beginOf_12 : decode cX1_beginOf 12 = .ok (.iconst (-1), 1) := by decide +kernel
theorem dX1_beginOf_13 : decode cX1_beginOf 13 = .ok (.ireturn, 1) := by decide +kernel
theorem dX1_beginOf_14 : decode cX1_beginOf 14 = .ok (.aload_n 0, 1) := by decide +kernel
theorem dX1_beginOf_15 : decode cX1_beginOf 15 = .ok (.iload_n 3, 1) := by decide +kernel
theorem dX1_beginOf_16 : decode cX1_beginOf 16 = .ok (.aload_n 0, 1) := by decide +kernel
theorem dX1_beginOf_17 : decode cX1_beginOf 17 = .ok (.getfield 9, 3) := by decide +kernel
theorem dX1_beginOf_20 : decode cX1_beginOf 20 = .ok (.iload_n 1, 1) := by decide +kernel
theorem dX1_beginOf_21 : decode cX1_beginOf 21 = .ok (.iload_n 2, 1) := by decide +kernel
theorem dX1_beginOf_22 : decode cX1_beginOf 22 = .ok (.iload_n 3, 1) := by decide +kernel
theorem dX1_beginOf_23 : decode cX1_beginOf 23 = .ok (.invokevirtual 49, 3) := by decide +kernel
theorem dX1_beginOf_26 : decode cX1_beginOf 26 = .ok (.iload 4, 2) := by decide +kernel
theorem dX1_beginOf_28 : decode cX1_beginOf 28 = .ok (.invokevirtual 53, 3) := by decide +kernel
theorem dX1_beginOf_31 : decode cX1_beginOf 31 = .ok (.istore 5, 2) := by decide +kernel
theorem dX1_beginOf_33 : decode cX1_beginOf 33 = .ok (.iload_n 3, 1) := by decide +kernel
theorem dX1_beginOf_34 : decode cX1_beginOf 34 = .ok (.aload_n 0, 1) := by decide +kernel
theorem dX1_beginOf_35 : decode cX1_beginOf 35 = .ok (.getfield 9, 3) := by decide +kernel
theorem dX1_beginOf_38 : decode cX1_beginOf 38 = .ok (.iload_n 1, 1) := by decide +kernel
theorem dX1_beginOf_39 : decode cX1_beginOf 39 = .ok (.invokevirtual 46, 3) := by decide +kernel
theorem dX1_beginOf_42 : decode cX1_beginOf 42 = .ok (.if_icmp .eq 6, 3) := by decide +kernel
theorem dX1_beginOf_45 : decode cX1_beginOf 45 = .ok (.iload 5, 2) := by decide +kernel
theorem dX1_beginOf_47 : decode cX1_beginOf 47 = .ok (.ireturn, 1) := by decide +kernel
theorem dX1_beginOf_48 : decode cX1_beginOf 48 = .ok (.aload_n 0, 1) := by decide +kernel
theorem dX1_beginOf_49 : decode cX1_beginOf 49 = .ok (.getfield 15, 3) := by decide +kernel
theorem dX1_beginOf_52 : decode cX1_beginOf 52 = .ok (.iload_n 3, 1) := by decide +kernel
theorem dX1_beginOf_53 : decode cX1_beginOf 53 = .ok (.iconst 1, 1) := by decide +kernel
theorem dX1_beginOf_54 : decode cX1_beginOf 54 = .ok (.iadd, 1) := by decide +kernel
theorem dX1_beginOf_55 : decode cX1_beginOf 55 = .ok (.aload_n 0, 1) := by decide +kernel
theorem dX1_beginOf_56 : decode cX1_beginOf 56 = .ok (.getfield 9, 3) := by decide +kernel
theorem dX1_beginOf_59 : decode cX1_beginOf 59 = .ok (.iload_n 1, 1) := by decide +kernel
theorem dX1_beginOf_60 : decode cX1_beginOf 60 = .ok (.iload_n 2, 1) := by decide +kernel
theorem dX1_beginOf_61 : decode cX1_beginOf 61 = .ok (.iload_n 3, 1) := by decide +kernel
theorem dX1_beginOf_62 : decode cX1_beginOf 62 = .ok (.iconst 1, 1) := by decide +kernel
theorem dX1_beginOf_63 : decode cX1_beginOf 63 = .ok (.iadd, 1) := by decide +kernel
theorem dX1_beginOf_64 : decode cX1_beginOf 64 = .ok (.invokevirtual 49, 3) := by decide +kernel
theorem dX1_beginOf_67 : decode cX1_beginOf 67 = .ok (.invokevirtual 34, 3) := by decide +kernel
theorem dX1_beginOf_70 : decode cX1_beginOf 70 = .ok (.istore 6, 2) := by decide +kernel
theorem dX1_beginOf_72 : decode cX1_beginOf 72 = .ok (.iconst 0, 1) := by decide +kernel
theorem dX1_beginOf_73 : decode cX1_beginOf 73 = .ok (.istore 7, 2) := by decide +kernel
theorem dX1_beginOf_75 : decode cX1_beginOf 75 = .ok (.iload 7, 2) := by decide +kernel
theorem dX1_beginOf_77 : decode cX1_beginOf 77 = .ok (.bipush 10, 2) := by decide +kernel
theorem dX1_beginOf_79 : decode cX1_beginOf 79 = .ok (.if_icmp .ge 61, 3) := by decide +kernel
theorem dX1_beginOf_82 : decode cX1_beginOf 82 = .ok (.aload_n 0, 1) := by decide +kernel
theorem dX1_beginOf_83 : decode cX1_beginOf 83 = .ok (.getfield 9, 3) := by decide +kernel
theorem dX1_beginOf_86 : decode cX1_beginOf 86 = .ok (.iload_n 1, 1) := by decide +kernel
theorem dX1_beginOf_87 : decode cX1_beginOf 87 = .ok (.iload 7, 2) := by decide +kernel
theorem dX1_beginOf_89 : decode cX1_beginOf 89 = .ok (.invokevirtual 23, 3) := by decide +kernel
theorem dX1_beginOf_92 : decode cX1_beginOf 92 = .ok (.istore 8, 2) := by decide +kernel
theorem dX1_beginOf_94 : decode cX1_beginOf 94 = .ok (.iload 8, 2) := by decide +kernel
theorem dX1_beginOf_96 : decode cX1_beginOf 96 = .ok (.ifCond .le 38, 3) := by decide +kernel
theorem dX1_beginOf_99 : decode cX1_beginOf 99 = .ok (.aload_n 0, 1) := by decide +kernel
theorem dX1_beginOf_100 : decode cX1_beginOf 100 = .ok (.getfield 15, 3) := by decide +kernel
theorem dX1_beginOf_103 : decode cX1_beginOf 103 = .ok (.iload_n 3, 1) := by decide +kernel
theorem dX1_beginOf_104 : decode cX1_beginOf 104 = .ok (.iconst 1, 1) := by decide +kernel
theorem dX1_beginOf_105 : decode cX1_beginOf 105 = .ok (.iadd, 1) := by decide +kernel
theorem dX1_beginOf_106 : decode cX1_beginOf 106 = .ok (.aload_n 0, 1) := by decide +kernel
theorem dX1_beginOf_107 : decode cX1_beginOf 107 = .ok (.getfield 9, 3) := by decide +kernel
theorem dX1_beginOf_110 : decode cX1_beginOf 110 = .ok (.iload_n 1, 1) := by decide +kernel
theorem dX1_beginOf_111 : decode cX1_beginOf 111 = .ok (.iload 7, 2) := by decide +kernel
theorem dX1_beginOf_113 : decode cX1_beginOf 113 = .ok (.iload_n 3, 1) := by decide +kernel
theorem dX1_beginOf_114 : decode cX1_beginOf 114 = .ok (.iconst 1, 1) := by decide +kernel
theorem dX1_beginOf_115 : decode cX1_beginOf 115 = .ok (.iadd, 1) := by decide +kernel
theorem dX1_beginOf_116 : decode cX1_beginOf 116 = .ok (.invokevirtual 49, 3) := by decide +kernel
theorem dX1_beginOf_119 : decode cX1_beginOf 119 = .ok (.invokevirtual 34, 3) := by decide +kernel
theorem dX1_beginOf_122 : decode cX1_beginOf 122 = .ok (.iload 6, 2) := by decide +kernel
theorem dX1_beginOf_124 : decode cX1_beginOf 124 = .ok (.if_icmp .ge 10, 3) := by decide +kernel
theorem dX1_beginOf_127 : decode cX1_beginOf 127 = .ok (.iload 5, 2) := by decide +kernel
theorem dX1_beginOf_129 : decode cX1_beginOf 129 = .ok (.iload 8, 2) := by decide +kernel
theorem dX1_beginOf_131 : decode cX1_beginOf 131 = .ok (.iadd, 1) := by decide +kernel
theorem dX1_beginOf_132 : decode cX1_beginOf 132 = .ok (.istore 5, 2) := by decide +kernel
theorem dX1_beginOf_134 : decode cX1_beginOf 134 = .ok (.iinc 7 1, 3) := by decide +kernel
theorem dX1_beginOf_137 : decode cX1_beginOf 137 = .ok (.goto (-62), 3) := by decide +kernel
theorem dX1_beginOf_140 : decode cX1_beginOf 140 = .ok (.iload 5, 2) := by decide +kernel
theorem dX1_beginOf_142 : decode cX1_beginOf 142 = .ok (.ireturn, 1) := by decide +kernel
theorem dX2_init_0 : decode cX2_init 0 = .ok (.aload_n 0, 1) := by decide +kernel
theorem dX2_init_1 : decode cX2_init 1 = .ok (.invokespecial 3, 3) := by decide +kernel
theorem dX2_init_4 : decode cX2_init 4 = .ok (.aload_n 0, 1) := by decide +kernel
theorem dX2_init_5 : decode cX2_init 5 = .ok (.bipush 100, 2) := by decide +kernel
theorem dX2_init_7 : decode cX2_init 7 = .ok (.newarray .int, 2) := by decide +kernel
theorem dX2_init_9 : decode cX2_init 9 = .ok (.putfield 9, 3) := by decide +kernel
theorem dX2_init_12 : decode cX2_init 12 = .ok (.aload_n 0, 1) := by decide +kernel
theorem dX2_init_13 : decode cX2_init 13 = .ok (.iconst 0, 1) := by decide +kernel
theorem dX2_init_14 : decode cX2_init 14 = .ok (.putfield 15, 3) := by decide +kernel
theorem dX2_init_17 : decode cX2_init 17 = .ok (.return_, 1) := by decide +kernel
theorem dX2_number_0 : decode cX2_number 0 = .ok (.aload_n 0, 1) := by decide +kernel
theorem dX2_number_1 : decode cX2_number 1 = .ok (.getfield 15, 3) := by decide +kernel
theorem dX2_number_4 : decode cX2_number 4 = .ok (.ireturn, 1) := by decide +kernel
theorem dX2_between_0 : decode cX2_between 0 = .ok (.iload_n 1, 1) := by decide +kernel
theorem dX2_between_1 : decode cX2_between 1 = .ok (.iload_n 2, 1) := by decide +kernel
theorem dX2_between_2 : decode cX2_between 2 = .ok (.invokestatic 19, 3) := by decide +kernel
theorem dX2_between_5 : decode cX2_between 5 = .ok (.ifCond .eq 17, 3) := by decide +kernel
theorem dX2_between_8 : decode cX2_between 8 = .ok (.aload_n 0, 1) := by decide +kernel
theorem dX2_between_9 : decode cX2_between 9 = .ok (.getfield 9, 3) := by decide +kernel
theorem dX2_between_12 : decode cX2_between 12 = .ok (.iload_n 1, 1) := by decide +kernel
theorem dX2_between_13 : decode cX2_between 13 = .ok (.bipush 10, 2) := by decide +kernel
theorem dX2_between_15 : decode cX2_between 15 = .ok (.imul, 1) := by decide +kernel
theorem dX2_between_16 : decode cX2_between 16 = .ok (.iload_n 2, 1) := by decide +kernel
theorem dX2_between_17 : decode cX2_between 17 = .ok (.iadd, 1) := by decide +kernel
theorem dX2_between_18 : decode cX2_between 18 = .ok (.iaload, 1) := by decide +kernel
theorem dX2_between_19 : decode cX2_between 19 = .ok (.goto 4, 3) := by decide +kernel
theorem dX2_between_22 : decode cX2_between 22 = .ok (.iconst 0, 1) := by decide +kernel
theorem dX2_between_23 : decode cX2_between 23 = .ok (.ireturn, 1) := by decide +kernel
theorem dX2_takes_0 : decode cX2_takes 0 = .ok (.iload_n 1, 1) := by decide +kernel
theorem dX2_takes_1 : decode cX2_takes 1 = .ok (.iload_n 2, 1) := by decide +kernel
theorem dX2_takes_2 : decode cX2_takes 2 = .ok (.invokestatic 19, 3) := by decide +kernel
theorem dX2_takes_5 : decode cX2_takes 5 = .ok (.ifCond .eq 18, 3) := by decide +kernel
theorem dX2_takes_8 : decode cX2_takes 8 = .ok (.iload_n 1, 1) := by decide +kernel
theorem dX2_takes_9 : decode cX2_takes 9 = .ok (.iload_n 2, 1) := by decide +kernel
theorem dX2_takes_10 : decode cX2_takes 10 = .ok (.if_icmp .eq 13, 3) := by decide +kernel
theorem dX2_takes_13 : decode cX2_takes 13 = .ok (.iload_n 3, 1) := by decide +kernel
theorem dX2_takes_14 : decode cX2_takes 14 = .ok (.ifCond .lt 9, 3) := by decide +kernel
theorem dX2_takes_17 : decode cX2_takes 17 = .ok (.iload_n 3, 1) := by decide +kernel
theorem dX2_takes_18 : decode cX2_takes 18 = .ok (.bipush 99, 2) := by decide +kernel
theorem dX2_takes_20 : decode cX2_takes 20 = .ok (.if_icmp .le 5, 3) := by decide +kernel
theorem dX2_takes_23 : decode cX2_takes 23 = .ok (.iconst 0, 1) := by decide +kernel
theorem dX2_takes_24 : decode cX2_takes 24 = .ok (.ireturn, 1) := by decide +kernel
theorem dX2_takes_25 : decode cX2_takes 25 = .ok (.iload_n 3, 1) := by decide +kernel
theorem dX2_takes_26 : decode cX2_takes 26 = .ok (.ifCond .eq 21, 3) := by decide +kernel
theorem dX2_takes_29 : decode cX2_takes 29 = .ok (.aload_n 0, 1) := by decide +kernel
theorem dX2_takes_30 : decode cX2_takes 30 = .ok (.iload_n 1, 1) := by decide +kernel
theorem dX2_takes_31 : decode cX2_takes 31 = .ok (.iload_n 2, 1) := by decide +kernel
theorem dX2_takes_32 : decode cX2_takes 32 = .ok (.invokevirtual 23, 3) := by decide +kernel
theorem dX2_takes_35 : decode cX2_takes 35 = .ok (.ifCond .gt 12, 3) := by decide +kernel
theorem dX2_takes_38 : decode cX2_takes 38 = .ok (.aload_n 0, 1) := by decide +kernel
theorem dX2_takes_39 : decode cX2_takes 39 = .ok (.getfield 15, 3) := by decide +kernel
theorem dX2_takes_42 : decode cX2_takes 42 = .ok (.bipush 16, 2) := by decide +kernel
theorem dX2_takes_44 : decode cX2_takes 44 = .ok (.if_icmp .ge 7, 3) := by decide +kernel
theorem dX2_takes_47 : decode cX2_takes 47 = .ok (.iconst 1, 1) := by decide +kernel
theorem dX2_takes_48 : decode cX2_takes 48 = .ok (.goto 4, 3) := by decide +kernel
theorem dX2_takes_51 : decode cX2_takes 51 = .ok (.iconst 0, 1) := by decide +kernel
theorem dX2_takes_52 : decode cX2_takes 52 = .ok (.ireturn, 1) := by decide +kernel
theorem dX2_put_0 : decode cX2_put 0 = .ok (.aload_n 0, 1) := by decide +kernel
theorem dX2_put_1 : decode cX2_put 1 = .ok (.iload_n 1, 1) := by decide +kernel
theorem dX2_put_2 : decode cX2_put 2 = .ok (.iload_n 2, 1) := by decide +kernel
theorem dX2_put_3 : decode cX2_put 3 = .ok (.iload_n 3, 1) := by decide +kernel
theorem dX2_put_4 : decode cX2_put 4 = .ok (.invokevirtual 27, 3) := by decide +kernel
theorem dX2_put_7 : decode cX2_put 7 = .ok (.ifCond .ne 4, 3) := by decide +kernel
theorem dX2_put_10 : decode cX2_put 10 = .ok (.return_, 1) := by decide +kernel
theorem dX2_put_11 : decode cX2_put 11 = .ok (.aload_n 0, 1) := by decide +kernel
theorem dX2_put_12 : decode cX2_put 12 = .ok (.dup, 1) := by decide +kernel
theorem dX2_put_13 : decode cX2_put 13 = .ok (.getfield 15, 3) := by decide +kernel
theorem dX2_put_16 : decode cX2_put 16 = .ok (.iload_n 3, 1) := by decide +kernel
theorem dX2_put_17 : decode cX2_put 17 = .ok (.ifCond .le 7, 3) := by decide +kernel
theorem dX2_put_20 : decode cX2_put 20 = .ok (.iconst 1, 1) := by decide +kernel
theorem dX2_put_21 : decode cX2_put 21 = .ok (.goto 4, 3) := by decide +kernel
theorem dX2_put_24 : decode cX2_put 24 = .ok (.iconst 0, 1) := by decide +kernel
theorem dX2_put_25 : decode cX2_put 25 = .ok (.aload_n 0, 1) := by decide +kernel
theorem dX2_put_26 : decode cX2_put 26 = .ok (.iload_n 1, 1) := by decide +kernel
theorem dX2_put_27 : decode cX2_put 27 = .ok (.iload_n 2, 1) := by decide +kernel
theorem dX2_put_28 : decode cX2_put 28 = .ok (.invokevirtual 23, 3) := by decide +kernel
theorem dX2_put_31 : decode cX2_put 31 = .ok (.ifCond .le 7, 3) := by decide +kernel
theorem dX2_put_34 : decode cX2_put 34 = .ok (.iconst 1, 1) := by decide +kernel
theorem dX2_put_35 : decode cX2_put 35 = .ok (.goto 4, 3) := by decide +kernel
theorem dX2_put_38 : decode cX2_put 38 = .ok (.iconst 0, 1) := by decide +kernel
theorem dX2_put_39 : decode cX2_put 39 = .ok (.isub, 1) := by decide +kernel
theorem dX2_put_40 : decode cX2_put 40 = .ok (.iadd, 1) := by decide +kernel
theorem dX2_put_41 : decode cX2_put 41 = .ok (.putfield 15, 3) := by decide +kernel
theorem dX2_put_44 : decode cX2_put 44 = .ok (.aload_n 0, 1) := by decide +kernel
theorem dX2_put_45 : decode cX2_put 45 = .ok (.getfield 9, 3) := by decide +kernel
theorem dX2_put_48 : decode cX2_put 48 = .ok (.iload_n 1, 1) := by decide +kernel
theorem dX2_put_49 : decode cX2_put 49 = .ok (.bipush 10, 2) := by decide +kernel
theorem dX2_put_51 : decode cX2_put 51 = .ok (.imul, 1) := by decide +kernel
theorem dX2_put_52 : decode cX2_put 52 = .ok (.iload_n 2, 1) := by decide +kernel
theorem dX2_put_53 : decode cX2_put 53 = .ok (.iadd, 1) := by decide +kernel
theorem dX2_put_54 : decode cX2_put 54 = .ok (.iload_n 3, 1) := by decide +kernel
theorem dX2_put_55 : decode cX2_put 55 = .ok (.iastore, 1) := by decide +kernel
theorem dX2_put_56 : decode cX2_put 56 = .ok (.return_, 1) := by decide +kernel
theorem dX2_removeAll_0 : decode cX2_removeAll 0 = .ok (.aload_n 0, 1) := by decide +kernel
theorem dX2_removeAll_1 : decode cX2_removeAll 1 = .ok (.getfield 9, 3) := by decide +kernel
theorem dX2_removeAll_4 : decode cX2_removeAll 4 = .ok (.iconst 0, 1) := by decide +kernel
theorem dX2_removeAll_5 : decode cX2_removeAll 5 = .ok (.invokestatic 31, 3) := by decide +kernel
theorem dX2_removeAll_8 : decode cX2_removeAll 8 = .ok (.aload_n 0, 1) := by decide +kernel
theorem dX2_removeAll_9 : decode cX2_removeAll 9 = .ok (.iconst 0, 1) := by decide +kernel
theorem dX2_removeAll_10 : decode cX2_removeAll 10 = .ok (.putfield 15, 3) := by decide +kernel
theorem dX2_removeAll_13 : decode cX2_removeAll 13 = .ok (.return_, 1) := by decide +kernel
theorem dX2_sum_0 : decode cX2_sum 0 = .ok (.iconst 0, 1) := by decide +kernel
theorem dX2_sum_1 : decode cX2_sum 1 = .ok (.istore_n 1, 1) := by decide +kernel
theorem dX2_sum_2 : decode cX2_sum 2 = .ok (.aload_n 0, 1) := by decide +kernel
theorem dX2_sum_3 : decode cX2_sum 3 = .ok (.getfield 9, 3) := by decide +kernel
theorem dX2_sum_6 : decode cX2_sum 6 = .ok (.astore_n 2, 1) := by decide +kernel
theorem dX2_sum_7 : decode cX2_sum 7 = .ok (.aload_n 2, 1) := by decide +kernel
theorem dX2_sum_8 : decode cX2_sum 8 = .ok (.arraylength, 1) := by decide +kernel
theorem dX2_sum_9 : decode cX2_sum 9 = .ok (.istore_n 3, 1) := by decide +kernel
theorem dX2_sum_10 : decode cX2_sum 10 = .ok (.iconst 0, 1) := by decide +kernel
theorem dX2_sum_11 : decode cX2_sum 11 = .ok (.istore 4, 2) := by decide +kernel
theorem dX2_sum_13 : decode cX2_sum 13 = .ok (.iload 4, 2) := by decide +kernel
theorem dX2_sum_15 : decode cX2_sum 15 = .ok (.iload_n 3, 1) := by decide +kernel
theorem dX2_sum_16 : decode cX2_sum 16 = .ok (.if_icmp .ge 20, 3) := by decide +kernel
theorem dX2_sum_19 : decode cX2_sum 19 = .ok (.aload_n 2, 1) := by decide +kernel
theorem dX2_sum_20 : decode cX2_sum 20 = .ok (.iload 4, 2) := by decide +kernel
theorem dX2_sum_22 : decode cX2_sum 22 = .ok (.iaload, 1) := by decide +kernel
theorem dX2_sum_23 : decode cX2_sum 23 = .ok (.istore 5, 2) := by decide +kernel
theorem dX2_sum_25 : decode cX2_sum 25 = .ok (.iload_n 1, 1) := by decide +kernel
theorem dX2_sum_26 : decode cX2_sum 26 = .ok (.iload 5, 2) := by decide +kernel
theorem dX2_sum_28 : decode cX2_sum 28 = .ok (.iadd, 1) := by decide +kernel
theorem dX2_sum_29 : decode cX2_sum 29 = .ok (.istore_n 1, 1) := by decide +kernel
theorem dX2_sum_30 : decode cX2_sum 30 = .ok (.iinc 4 1, 3) := by decide +kernel
theorem dX2_sum_33 : decode cX2_sum 33 = .ok (.goto (-20), 3) := by decide +kernel
theorem dX2_sum_36 : decode cX2_sum 36 = .ok (.iload_n 1, 1) := by decide +kernel
theorem dX2_sum_37 : decode cX2_sum 37 = .ok (.ireturn, 1) := by decide +kernel
theorem dX2_comingTo_0 : decode cX2_comingTo 0 = .ok (.iconst 0, 1) := by decide +kernel
theorem dX2_comingTo_1 : decode cX2_comingTo 1 = .ok (.istore_n 2, 1) := by decide +kernel
theorem dX2_comingTo_2 : decode cX2_comingTo 2 = .ok (.iconst 0, 1) := by decide +kernel
theorem dX2_comingTo_3 : decode cX2_comingTo 3 = .ok (.istore_n 3, 1) := by decide +kernel
theorem dX2_comingTo_4 : decode cX2_comingTo 4 = .ok (.iload_n 3, 1) := by decide +kernel
theorem dX2_comingTo_5 : decode cX2_comingTo 5 = .ok (.bipush 10, 2) := by decide +kernel
theorem dX2_comingTo_7 : decode cX2_comingTo 7 = .ok (.if_icmp .ge 18, 3) := by decide +kernel
theorem dX2_comingTo_10 : decode cX2_comingTo 10 = .ok (.iload_n 2, 1) := by decide +kernel
theorem dX2_comingTo_11 : decode cX2_comingTo 11 = .ok (.aload_n 0, 1) := by decide +kernel
theorem dX2_comingTo_12 : decode cX2_comingTo 12 = .ok (.iload_n 3, 1) := by decide +kernel
theorem dX2_comingTo_13 : decode cX2_comingTo 13 = .ok (.iload_n 1, 1) := by decide +kernel
theorem dX2_comingTo_14 : decode cX2_comingTo 14 = .ok (.invokevirtual 23, 3) := by decide +kernel
theorem dX2_comingTo_17 : decode cX2_comingTo 17 = .ok (.iadd, 1) := by decide +kernel
theorem dX2_comingTo_18 : decode cX2_comingTo 18 = .ok (.istore_n 2, 1) := by decide +kernel
theorem dX2_comingTo_19 : decode cX2_comingTo 19 = .ok (.iinc 3 1, 3) := by decide +kernel
theorem dX2_comingTo_22 : decode cX2_comingTo 22 = .ok (.goto (-18), 3) := by decide +kernel
theorem dX2_comingTo_25 : decode cX2_comingTo 25 = .ok (.iload_n 2, 1) := by decide +kernel
theorem dX2_comingTo_26 : decode cX2_comingTo 26 = .ok (.ireturn, 1) := by decide +kernel
theorem dX2_goingFrom_0 : decode cX2_goingFrom 0 = .ok (.iconst 0, 1) := by decide +kernel
theorem dX2_goingFrom_1 : decode cX2_goingFrom 1 = .ok (.istore_n 2, 1) := by decide +kernel
theorem dX2_goingFrom_2 : decode cX2_goingFrom 2 = .ok (.iconst 0, 1) := by decide +kernel
theorem dX2_goingFrom_3 : decode cX2_goingFrom 3 = .ok (.istore_n 3, 1) := by decide +kernel
theorem dX2_goingFrom_4 : decode cX2_goingFrom 4 = .ok (.iload_n 3, 1) := by decide +kernel
theorem dX2_goingFrom_5 : decode cX2_goingFrom 5 = .ok (.bipush 10, 2) := by decide +kernel
theorem dX2_goingFrom_7 : decode cX2_goingFrom 7 = .ok (.if_icmp .ge 18, 3) := by decide +kernel
theorem dX2_goingFrom_10 : decode cX2_goingFrom 10 = .ok (.iload_n 2, 1) := by decide +kernel
theorem dX2_goingFrom_11 : decode cX2_goingFrom 11 = .ok (.aload_n 0, 1) := by decide +kernel
theorem dX2_goingFrom_12 : decode cX2_goingFrom 12 = .ok (.iload_n 1, 1) := by decide +kernel
theorem dX2_goingFrom_13 : decode cX2_goingFrom 13 = .ok (.iload_n 3, 1) := by decide +kernel
theorem dX2_goingFrom_14 : decode cX2_goingFrom 14 = .ok (.invokevirtual 23, 3) := by decide +kernel
theorem dX2_goingFrom_17 : decode cX2_goingFrom 17 = .ok (.iadd, 1) := by decide +kernel
theorem dX2_goingFrom_18 : decode cX2_goingFrom 18 = .ok (.istore_n 2, 1) := by decide +kernel
theorem dX2_goingFrom_19 : decode cX2_goingFrom 19 = .ok (.iinc 3 1, 3) := by decide +kernel
theorem dX2_goingFrom_22 : decode cX2_goingFrom 22 = .ok (.goto (-18), 3) := by decide +kernel
theorem dX2_goingFrom_25 : decode cX2_goingFrom 25 = .ok (.iload_n 2, 1) := by decide +kernel
theorem dX2_goingFrom_26 : decode cX2_goingFrom 26 = .ok (.ireturn, 1) := by decide +kernel
theorem dX2_uses_0 : decode cX2_uses 0 = .ok (.iconst 0, 1) := by decide +kernel
theorem dX2_uses_1 : decode cX2_uses 1 = .ok (.istore_n 2, 1) := by decide +kernel
theorem dX2_uses_2 : decode cX2_uses 2 = .ok (.iload_n 2, 1) := by decide +kernel
theorem dX2_uses_3 : decode cX2_uses 3 = .ok (.bipush 10, 2) := by decide +kernel
theorem dX2_uses_5 : decode cX2_uses 5 = .ok (.if_icmp .ge 39, 3) := by decide +kernel
theorem dX2_uses_8 : decode cX2_uses 8 = .ok (.aload_n 0, 1) := by decide +kernel
theorem dX2_uses_9 : decode cX2_uses 9 = .ok (.getfield 9, 3) := by decide +kernel
theorem dX2_uses_12 : decode cX2_uses 12 = .ok (.iload_n 1, 1) := by decide +kernel
theorem dX2_uses_13 : decode cX2_uses 13 = .ok (.bipush 10, 2) := by decide +kernel
theorem dX2_uses_15 : decode cX2_uses 15 = .ok (.imul, 1) := by decide +kernel
theorem dX2_uses_16 : decode cX2_uses 16 = .ok (.iload_n 2, 1) := by decide +kernel
theorem dX2_uses_17 : decode cX2_uses 17 = .ok (.iadd, 1) := by decide +kernel
theorem dX2_uses_18 : decode cX2_uses 18 = .ok (.iaload, 1) := by decide +kernel
theorem dX2_uses_19 : decode cX2_uses 19 = .ok (.ifCond .gt 17, 3) := by decide +kernel
theorem dX2_uses_22 : decode cX2_uses 22 = .ok (.aload_n 0, 1) := by decide +kernel
theorem dX2_uses_23 : decode cX2_uses 23 = .ok (.getfield 9, 3) := by decide +kernel
theorem dX2_uses_26 : decode cX2_uses 26 = .ok (.iload_n 2, 1) := by decide +kernel
theorem dX2_uses_27 : decode cX2_uses 27 = .ok (.bipush 10, 2) := by decide +kernel
theorem dX2_uses_29 : decode cX2_uses 29 = .ok (.imul, 1) := by decide +kernel
theorem dX2_uses_30 : decode cX2_uses 30 = .ok (.iload_n 1, 1) := by decide +kernel
theorem dX2_uses_31 : decode cX2_uses 31 = .ok (.iadd, 1) := by decide +kernel
theorem dX2_uses_32 : decode cX2_uses 32 = .ok (.iaload, 1) := by decide +kernel
theorem dX2_uses_33 : decode cX2_uses 33 = .ok (.ifCond .le 5, 3) := by decide +kernel
theorem dX2_uses_36 : decode cX2_uses 36 = .ok (.iconst 1, 1) := by decide +kernel
theorem dX2_uses_37 : decode cX2_uses 37 = .ok (.ireturn, 1) := by decide +kernel
theorem dX2_uses_38 : decode cX2_uses 38 = .ok (.iinc 2 1, 3) := by decide +kernel
theorem dX2_uses_41 : decode cX2_uses 41 = .ok (.goto (-39), 3) := by decide +kernel
theorem dX2_uses_44 : decode cX2_uses 44 = .ok (.iconst 0, 1) := by decide +kernel
theorem dX2_uses_45 : decode cX2_uses 45 = .ok (.ireturn, 1) := by decide +kernel
theorem dX3_init_0 : decode cX3_init 0 = .ok (.aload_n 0, 1) := by decide +kernel
theorem dX3_init_1 : decode cX3_init 1 = .ok (.invokespecial 3, 3) := by decide +kernel
theorem dX3_init_4 : decode cX3_init 4 = .ok (.aload_n 0, 1) := by decide +kernel
theorem dX3_init_5 : decode cX3_init 5 = .ok (.bipush 25, 2) := by decide +kernel
theorem dX3_init_7 : decode cX3_init 7 = .ok (.newarray .int, 2) := by decide +kernel
theorem dX3_init_9 : decode cX3_init 9 = .ok (.putfield 9, 3) := by decide +kernel
theorem dX3_init_12 : decode cX3_init 12 = .ok (.aload_n 0, 1) := by decide +kernel
theorem dX3_init_13 : decode cX3_init 13 = .ok (.bipush 25, 2) := by decide +kernel
theorem dX3_init_15 : decode cX3_init 15 = .ok (.newarray .int, 2) := by decide +kernel
theorem dX3_init_17 : decode cX3_init 17 = .ok (.putfield 15, 3) := by decide +kernel
theorem dX3_init_20 : decode cX3_init 20 = .ok (.aload_n 0, 1) := by decide +kernel
theorem dX3_init_21 : decode cX3_init 21 = .ok (.iconst 0, 1) := by decide +kernel
theorem dX3_init_22 : decode cX3_init 22 = .ok (.putfield 18, 3) := by decide +kernel
theorem dX3_init_25 : decode cX3_init 25 = .ok (.aload_n 0, 1) := by decide +kernel
theorem dX3_init_26 : decode cX3_init 26 = .ok (.aload_n 1, 1) := by decide +kernel
theorem dX3_init_27 : decode cX3_init 27 = .ok (.putfield 22, 3) := by decide +kernel
theorem dX3_init_30 : decode cX3_init 30 = .ok (.aload_n 0, 1) := by decide +kernel
theorem dX3_init_31 : decode cX3_init 31 = .ok (.aload_n 2, 1) := by decide +kernel
theorem dX3_init_32 : decode cX3_init 32 = .ok (.putfield 26, 3) := by decide +kernel
theorem dX3_init_35 : decode cX3_init 35 = .ok (.aload_n 0, 1) := by decide +kernel
theorem dX3_init_36 : decode cX3_init 36 = .ok (.aload_n 3, 1) := by decide +kernel
theorem dX3_init_37 : decode cX3_init 37 = .ok (.putfield 30, 3) := by decide +kernel
theorem dX3_init_40 : decode cX3_init 40 = .ok (.return_, 1) := by decide +kernel
theorem dX3_base_0 : decode cX3_base 0 = .ok (.aload_n 0, 1) := by decide +kernel
theorem dX3_base_1 : decode cX3_base 1 = .ok (.getfield 18, 3) := by decide +kernel
theorem dX3_base_4 : decode cX3_base 4 = .ok (.ireturn, 1) := by decide +kernel
theorem dX3_gains_0 : decode cX3_gains 0 = .ok (.aload_n 0, 1) := by decide +kernel
theorem dX3_gains_1 : decode cX3_gains 1 = .ok (.getfield 15, 3) := by decide +kernel
theorem dX3_gains_4 : decode cX3_gains 4 = .ok (.areturn, 1) := by decide +kernel
theorem dX3_gatherLinks_0 : decode cX3_gatherLinks 0 = .ok (.aload_n 0, 1) := by decide +kernel
theorem dX3_gatherLinks_1 : decode cX3_gatherLinks 1 = .ok (.getfield 9, 3) := by decide +kernel
theorem dX3_gatherLinks_4 : decode cX3_gatherLinks 4 = .ok (.iconst 0, 1) := by decide +kernel
theorem dX3_gatherLinks_5 : decode cX3_gatherLinks 5 = .ok (.invokestatic 34, 3) := by decide +kernel
theorem dX3_gatherLinks_8 : decode cX3_gatherLinks 8 = .ok (.iconst 0, 1) := by decide +kernel
theorem dX3_gatherLinks_9 : decode cX3_gatherLinks 9 = .ok (.istore_n 2, 1) := by decide +kernel
theorem dX3_gatherLinks_10 : decode cX3_gatherLinks 10 = .ok (.iload_n 2, 1) := by decide +kernel
theorem dX3_gatherLinks_11 : decode cX3_gatherLinks 11 = .ok (.bipush 10, 2) := by decide +kernel
theorem dX3_gatherLinks_13 : decode cX3_gatherLinks 13 = .ok (.if_icmp .ge 97, 3) := by decide +kernel
theorem dX3_gatherLinks_16 : decode cX3_gatherLinks 16 = .ok (.iconst 0, 1) := by decide +kernel
theorem dX3_gatherLinks_17 : decode cX3_gatherLinks 17 = .ok (.istore_n 3, 1) := by decide +kernel
theorem dX3_gatherLinks_18 : decode cX3_gatherLinks 18 = .ok (.iload_n 3, 1) := by decide +kernel
theorem dX3_gatherLinks_19 : decode cX3_gatherLinks 19 = .ok (.bipush 10, 2) := by decide +kernel
theorem dX3_gatherLinks_21 : decode cX3_gatherLinks 21 = .ok (.if_icmp .ge 83, 3) := by decide +kernel
theorem dX3_gatherLinks_24 : decode cX3_gatherLinks 24 = .ok (.aload_n 0, 1) := by decide +kernel
theorem dX3_gatherLinks_25 : decode cX3_gatherLinks 25 = .ok (.getfield 22, 3) := by decide +kernel
theorem dX3_gatherLinks_28 : decode cX3_gatherLinks 28 = .ok (.iload_n 2, 1) := by decide +kernel
theorem dX3_gatherLinks_29 : decode cX3_gatherLinks 29 = .ok (.iload_n 3, 1) := by decide +kernel
theorem dX3_gatherLinks_30 : decode cX3_gatherLinks 30 = .ok (.iload_n 1, 1) := by decide +kernel
theorem dX3_gatherLinks_31 : decode cX3_gatherLinks 31 = .ok (.invokevirtual 40, 3) := by decide +kernel
theorem dX3_gatherLinks_34 : decode cX3_gatherLinks 34 = .ok (.ifCond .eq 64, 3) := by decide +kernel
theorem dX3_gatherLinks_37 : decode cX3_gatherLinks 37 = .ok (.aload_n 0, 1) := by decide +kernel
theorem dX3_gatherLinks_38 : decode cX3_gatherLinks 38 = .ok (.getfield 26, 3) := by decide +kernel
theorem dX3_gatherLinks_41 : decode cX3_gatherLinks 41 = .ok (.iload_n 1, 1) := by decide +kernel
theorem dX3_gatherLinks_42 : decode cX3_gatherLinks 42 = .ok (.aload_n 0, 1) := by decide +kernel
theorem dX3_gatherLinks_43 : decode cX3_gatherLinks 43 = .ok (.getfield 22, 3) := by decide +kernel
theorem dX3_gatherLinks_46 : decode cX3_gatherLinks 46 = .ok (.iload_n 2, 1) := by decide +kernel
theorem dX3_gatherLinks_47 : decode cX3_gatherLinks 47 = .ok (.iload_n 3, 1) := by decide +kernel
theorem dX3_gatherLinks_48 : decode cX3_gatherLinks 48 = .ok (.iload_n 1, 1) := by decide +kernel
theorem dX3_gatherLinks_49 : decode cX3_gatherLinks 49 = .ok (.invokevirtual 45, 3) := by decide +kernel
theorem dX3_gatherLinks_52 : decode cX3_gatherLinks 52 = .ok (.invokevirtual 49, 3) := by decide +kernel
theorem dX3_gatherLinks_55 : decode cX3_gatherLinks 55 = .ok (.istore 4, 2) := by decide +kernel
theorem dX3_gatherLinks_57 : decode cX3_gatherLinks 57 = .ok (.aload_n 0, 1) := by decide +kernel
theorem dX3_gatherLinks_58 : decode cX3_gatherLinks 58 = .ok (.getfield 26, 3) := by decide +kernel
theorem dX3_gatherLinks_61 : decode cX3_gatherLinks 61 = .ok (.iload_n 1, 1) := by decide +kernel
theorem dX3_gatherLinks_62 : decode cX3_gatherLinks 62 = .ok (.iconst 1, 1) := by decide +kernel
theorem dX3_gatherLinks_63 : decode cX3_gatherLinks 63 = .ok (.iadd, 1) := by decide +kernel
theorem dX3_gatherLinks_64 : decode cX3_gatherLinks 64 = .ok (.aload_n 0, 1) := by decide +kernel
theorem dX3_gatherLinks_65 : decode cX3_gatherLinks 65 = .ok (.getfield 22, 3) := by decide +kernel
theorem dX3_gatherLinks_68 : decode cX3_gatherLinks 68 = .ok (.iload_n 2, 1) := by decide +kernel
theorem dX3_gatherLinks_69 : decode cX3_gatherLinks 69 = .ok (.iload_n 3, 1) := by decide +kernel
theorem dX3_gatherLinks_70 : decode cX3_gatherLinks 70 = .ok (.iload_n 1, 1) := by decide +kernel
theorem dX3_gatherLinks_71 : decode cX3_gatherLinks 71 = .ok (.iconst 1, 1) := by decide +kernel
theorem dX3_gatherLinks_72 : decode cX3_gatherLinks 72 = .ok (.iadd, 1) := by decide +kernel
theorem dX3_gatherLinks_73 : decode cX3_gatherLinks 73 = .ok (.invokevirtual 45, 3) := by decide +kernel
theorem dX3_gatherLinks_76 : decode cX3_gatherLinks 76 = .ok (.invokevirtual 49, 3) := by decide +kernel
theorem dX3_gatherLinks_79 : decode cX3_gatherLinks 79 = .ok (.istore 5, 2) := by decide +kernel
theorem dX3_gatherLinks_81 : decode cX3_gatherLinks 81 = .ok (.aload_n 0, 1) := by decide +kernel
theorem dX3_gatherLinks_82 : decode cX3_gatherLinks 82 = .ok (.iload 4, 2) := by decide +kernel
theorem dX3_gatherLinks_84 : decode cX3_gatherLinks 84 = .ok (.iload 5, 2) := by decide +kernel
theorem dX3_gatherLinks_86 : decode cX3_gatherLinks 86 = .ok (.aload_n 0, 1) := by decide +kernel
theorem dX3_gatherLinks_87 : decode cX3_gatherLinks 87 = .ok (.getfield 22, 3) := by decide +kernel
theorem dX3_gatherLinks_90 : decode cX3_gatherLinks 90 = .ok (.iload_n 2, 1) := by decide +kernel
theorem dX3_gatherLinks_91 : decode cX3_gatherLinks 91 = .ok (.iload_n 3, 1) := by decide +kernel
theorem dX3_gatherLinks_92 : decode cX3_gatherLinks 92 = .ok (.invokevirtual 55, 3) := by decide +kernel
theorem dX3_gatherLinks_95 : decode cX3_gatherLinks 95 = .ok (.invokevirtual 58, 3) := by decide +kernel
theorem dX3_gatherLinks_98 : decode cX3_gatherLinks 98 = .ok (.iinc 3 1, 3) := by decide +kernel
theorem dX3_gatherLinks_101 : decode cX3_gatherLinks 101 = .ok (.goto (-83), 3) := by decide +kernel
theorem dX3_gatherLinks_104 : decode cX3_gatherLinks 104 = .ok (.iinc 2 1, 3) := by decide +kernel
theorem dX3_gatherLinks_107 : decode cX3_gatherLinks 107 = .ok (.goto (-97), 3) := by decide +kernel
theorem dX3_gatherLinks_110 : decode cX3_gatherLinks 110 = .ok (.return_, 1) := by decide +kernel
theorem dX3_begin_0 : decode cX3_begin 0 = .ok (.aload_n 0, 1) := by decide +kernel
theorem dX3_begin_1 : decode cX3_begin 1 = .ok (.getfield 26, 3) := by decide +kernel
theorem dX3_begin_4 : decode cX3_begin 4 = .ok (.iload_n 1, 1) := by decide +kernel
theorem dX3_begin_5 : decode cX3_begin 5 = .ok (.invokevirtual 62, 3) := by decide +kernel
theorem dX3_begin_8 : decode cX3_begin 8 = .ok (.istore_n 3, 1) := by decide +kernel
theorem dX3_begin_9 : decode cX3_begin 9 = .ok (.aload_n 0, 1) := by decide +kernel
theorem dX3_begin_10 : decode cX3_begin 10 = .ok (.getfield 26, 3) := by decide +kernel
theorem dX3_begin_13 : decode cX3_begin 13 = .ok (.iload_n 1, 1) := by decide +kernel
theorem dX3_begin_14 : decode cX3_begin 14 = .ok (.iconst 1, 1) := by decide +kernel
theorem dX3_begin_15 : decode cX3_begin 15 = .ok (.iadd, 1) := by decide +kernel
theorem dX3_begin_16 : decode cX3_begin 16 = .ok (.invokevirtual 62, 3) := by decide +kernel
theorem dX3_begin_19 : decode cX3_begin 19 = .ok (.istore 4, 2) := by decide +kernel
theorem dX3_begin_21 : decode cX3_begin 21 = .ok (.aload_n 0, 1) := by decide +kernel
theorem dX3_begin_22 : decode cX3_begin 22 = .ok (.iconst 0, 1) := by decide +kernel
theorem dX3_begin_23 : decode cX3_begin 23 = .ok (.putfield 18, 3) := by decide +kernel
theorem dX3_begin_26 : decode cX3_begin 26 = .ok (.iconst 0, 1) := by decide +kernel
theorem dX3_begin_27 : decode cX3_begin 27 = .ok (.istore 5, 2) := by decide +kernel
theorem dX3_begin_29 : decode cX3_begin 29 = .ok (.iload 5, 2) := by decide +kernel
theorem dX3_begin_31 : decode cX3_begin 31 = .ok (.iload_n 3, 1) := by decide +kernel
theorem dX3_begin_32 : decode cX3_begin 32 = .ok (.if_icmp .ge 195, 3) := by decide +kernel
theorem dX3_begin_35 : decode cX3_begin 35 = .ok (.iload 5, 2) := by decide +kernel
theorem dX3_begin_37 : decode cX3_begin 37 = .ok (.iconst 1, 1) := by decide +kernel
theorem dX3_begin_38 : decode cX3_begin 38 = .ok (.iadd, 1) := by decide +kernel
theorem dX3_begin_39 : decode cX3_begin 39 = .ok (.istore 6, 2) := by decide +kernel
theorem dX3_begin_41 : decode cX3_begin 41 = .ok (.iload 6, 2) := by decide +kernel
theorem dX3_begin_43 : decode cX3_begin 43 = .ok (.iload_n 3, 1) := by decide +kernel
theorem dX3_begin_44 : decode cX3_begin 44 = .ok (.if_icmp .ge 177, 3) := by decide +kernel
theorem dX3_begin_47 : decode cX3_begin 47 = .ok (.aload_n 0, 1) := by decide +kernel
theorem dX3_begin_48 : decode cX3_begin 48 = .ok (.getfield 26, 3) := by decide +kernel
theorem dX3_begin_51 : decode cX3_begin 51 = .ok (.iload_n 1, 1) := by decide +kernel
theorem dX3_begin_52 : decode cX3_begin 52 = .ok (.iload 5, 2) := by decide +kernel
theorem dX3_begin_54 : decode cX3_begin 54 = .ok (.invokevirtual 66, 3) := by decide +kernel
theorem dX3_begin_57 : decode cX3_begin 57 = .ok (.istore 7, 2) := by decide +kernel
theorem dX3_begin_59 : decode cX3_begin 59 = .ok (.aload_n 0, 1) := by decide +kernel
theorem dX3_begin_60 : decode cX3_begin 60 = .ok (.getfield 26, 3) := by decide +kernel
theorem dX3_begin_63 : decode cX3_begin 63 = .ok (.iload_n 1, 1) := by decide +kernel
theorem dX3_begin_64 : decode cX3_begin 64 = .ok (.iload 6, 2) := by decide +kernel
theorem dX3_begin_66 : decode cX3_begin 66 = .ok (.invokevirtual 66, 3) := by decide +kernel
theorem dX3_begin_69 : decode cX3_begin 69 = .ok (.istore 8, 2) := by decide +kernel
theorem dX3_begin_71 : decode cX3_begin 71 = .ok (.iload_n 2, 1) := by decide +kernel
theorem dX3_begin_72 : decode cX3_begin 72 = .ok (.aload_n 0, 1) := by decide +kernel
theorem dX3_begin_73 : decode cX3_begin 73 = .ok (.getfield 30, 3) := by decide +kernel
theorem dX3_begin_76 : decode cX3_begin 76 = .ok (.iload 7, 2) := by decide +kernel
theorem dX3_begin_78 : decode cX3_begin 78 = .ok (.iload 8, 2) := by decide +kernel
theorem dX3_begin_80 : decode cX3_begin 80 = .ok (.invokevirtual 69, 3) := by decide +kernel
theorem dX3_begin_83 : decode cX3_begin 83 = .ok (.imul, 1) := by decide +kernel
theorem dX3_begin_84 : decode cX3_begin 84 = .ok (.istore 9, 2) := by decide +kernel
theorem dX3_begin_86 : decode cX3_begin 86 = .ok (.iload_n 2, 1) := by decide +kernel
theorem dX3_begin_87 : decode cX3_begin 87 = .ok (.aload_n 0, 1) := by decide +kernel
theorem dX3_begin_88 : decode cX3_begin 88 = .ok (.getfield 30, 3) := by decide +kernel
theorem dX3_begin_91 : decode cX3_begin 91 = .ok (.iload 8, 2) := by decide +kernel
theorem dX3_begin_93 : decode cX3_begin 93 = .ok (.iload 7, 2) := by decide +kernel
theorem dX3_begin_95 : decode cX3_begin 95 = .ok (.invokevirtual 69, 3) := by decide +kernel
theorem dX3_begin_98 : decode cX3_begin 98 = .ok (.imul, 1) := by decide +kernel
theorem dX3_begin_99 : decode cX3_begin 99 = .ok (.istore 10, 2) := by decide +kernel
theorem dX3_begin_101 : decode cX3_begin 101 = .ok (.iconst 0, 1) := by decide +kernel
theorem dX3_begin_102 : decode cX3_begin 102 = .ok (.istore 11, 2) := by decide +kernel
theorem dX3_begin_104 : decode cX3_begin 104 = .ok (.iload 11, 2) := by decide +kernel
theorem dX3_begin_106 : decode cX3_begin 106 = .ok (.iload 4, 2) := by decide +kernel
theorem dX3_begin_108 : decode cX3_begin 108 = .ok (.if_icmp .ge 62, 3) := by decide +kernel
theorem dX3_begin_111 : decode cX3_begin 111 = .ok (.iload 11, 2) := by decide +kernel
theorem dX3_begin_113 : decode cX3_begin 113 = .ok (.iconst 1, 1) := by decide +kernel
theorem dX3_begin_114 : decode cX3_begin 114 = .ok (.iadd, 1) := by decide +kernel
theorem dX3_begin_115 : decode cX3_begin 115 = .ok (.istore 12, 2) := by decide +kernel
theorem dX3_begin_117 : decode cX3_begin 117 = .ok (.iload 12, 2) := by decide +kernel
theorem dX3_begin_119 : decode cX3_begin 119 = .ok (.iload 4, 2) := by decide +kernel
theorem dX3_begin_121 : decode cX3_begin 121 = .ok (.if_icmp .ge 43, 3) := by decide +kernel
theorem dX3_begin_124 : decode cX3_begin 124 = .ok (.iload 9, 2) := by decide +kernel
theorem dX3_begin_126 : decode cX3_begin 126 = .ok (.aload_n 0, 1) := by decide +kernel
theorem dX3_begin_127 : decode cX3_begin 127 = .ok (.iload 5, 2) := by decide +kernel
theorem dX3_begin_129 : decode cX3_begin 129 = .ok (.iload 6, 2) := by decide +kernel
theorem dX3_begin_131 : decode cX3_begin 131 = .ok (.iload 11, 2) := by decide +kernel
theorem dX3_begin_133 : decode cX3_begin 133 = .ok (.iload 12, 2) := by decide +kernel
theorem dX3_begin_135 : decode cX3_begin 135 = .ok (.invokevirtual 74, 3) := by decide +kernel
theorem dX3_begin_138 : decode cX3_begin 138 = .ok (.iadd, 1) := by decide +kernel
theorem dX3_begin_139 : decode cX3_begin 139 = .ok (.istore 9, 2) := by decide +kernel
theorem dX3_begin_141 : decode cX3_begin 141 = .ok (.iload 10, 2) := by decide +kernel
theorem dX3_begin_143 : decode cX3_begin 143 = .ok (.aload_n 0, 1) := by decide +kernel
theorem dX3_begin_144 : decode cX3_begin 144 = .ok (.iload 6, 2) := by decide +kernel
theorem dX3_begin_146 : decode cX3_begin 146 = .ok (.iload 5, 2) := by decide +kernel
theorem dX3_begin_148 : decode cX3_begin 148 = .ok (.iload 11, 2) := by decide +kernel
theorem dX3_begin_150 : decode cX3_begin 150 = .ok (.iload 12, 2) := by decide +kernel
theorem dX3_begin_152 : decode cX3_begin 152 = .ok (.invokevirtual 74, 3) := by decide +kernel
theorem dX3_begin_155 : decode cX3_begin 155 = .ok (.iadd, 1) := by decide +kernel
theorem dX3_begin_156 : decode cX3_begin 156 = .ok (.istore 10, 2) := by decide +kernel
theorem dX3_begin_158 : decode cX3_begin 158 = .ok (.iinc 12 1, 3) := by decide +kernel
theorem dX3_begin_161 : decode cX3_begin 161 = .ok (.goto (-44), 3) := by decide +kernel
theorem dX3_begin_164 : decode cX3_begin 164 = .ok (.iinc 11 1, 3) := by decide +kernel
theorem dX3_begin_167 : decode cX3_begin 167 = .ok (.goto (-63), 3) := by decide +kernel
theorem dX3_begin_170 : decode cX3_begin 170 = .ok (.aload_n 0, 1) := by decide +kernel
theorem dX3_begin_171 : decode cX3_begin 171 = .ok (.dup, 1) := by decide +kernel
theorem dX3_begin_172 : decode cX3_begin 172 = .ok (.getfield 18, 3) := by decide +kernel
theorem dX3_begin_175 : decode cX3_begin 175 = .ok (.iload 9, 2) := by decide +kernel
theorem dX3_begin_177 : decode cX3_begin 177 = .ok (.iadd, 1) := by decide +kernel
theorem dX3_begin_178 : decode cX3_begin 178 = .ok (.putfield 18, 3) := by decide +kernel
theorem dX3_begin_181 : decode cX3_begin 181 = .ok (.aload_n 0, 1) := by decide +kernel
theorem dX3_begin_182 : decode cX3_begin 182 = .ok (.getfield 15, 3) := by decide +kernel
theorem dX3_begin_185 : decode cX3_begin 185 = .ok (.iload 5, 2) := by decide +kernel
theorem dX3_begin_187 : decode cX3_begin 187 = .ok (.iload 6, 2) := by decide +kernel
theorem dX3_begin_189 : decode cX3_begin 189 = .ok (.invokestatic 78, 3) := by decide +kernel
theorem dX3_begin_192 : decode cX3_begin 192 = .ok (.iload 10, 2) := by decide +kernel
theorem dX3_begin_194 : decode cX3_begin 194 = .ok (.iload 9, 2) := by decide +kernel
theorem dX3_begin_196 : decode cX3_begin 196 = .ok (.isub, 1) := by decide +kernel
theorem dX3_begin_197 : decode cX3_begin 197 = .ok (.iastore, 1) := by decide +kernel
theorem dX3_begin_198 : decode cX3_begin 198 = .ok (.aload_n 0, 1) := by decide +kernel
theorem dX3_begin_199 : decode cX3_begin 199 = .ok (.getfield 15, 3) := by decide +kernel
theorem dX3_begin_202 : decode cX3_begin 202 = .ok (.iload 6, 2) := by decide +kernel
theorem dX3_begin_204 : decode cX3_begin 204 = .ok (.iload 5, 2) := by decide +kernel
theorem dX3_begin_206 : decode cX3_begin 206 = .ok (.invokestatic 78, 3) := by decide +kernel
theorem dX3_begin_209 : decode cX3_begin 209 = .ok (.iload 9, 2) := by decide +kernel
theorem dX3_begin_211 : decode cX3_begin 211 = .ok (.iload 10, 2) := by decide +kernel
theorem dX3_begin_213 : decode cX3_begin 213 = .ok (.isub, 1) := by decide +kernel
theorem dX3_begin_214 : decode cX3_begin 214 = .ok (.iastore, 1) := by decide +kernel
theorem dX3_begin_215 : decode cX3_begin 215 = .ok (.iinc 6 1, 3) := by decide +kernel
theorem dX3_begin_218 : decode cX3_begin 218 = .ok (.goto (-177), 3) := by decide +kernel
theorem dX3_begin_221 : decode cX3_begin 221 = .ok (.iinc 5 1, 3) := by decide +kernel
theorem dX3_begin_224 : decode cX3_begin 224 = .ok (.goto (-195), 3) := by decide +kernel
theorem dX3_begin_227 : decode cX3_begin 227 = .ok (.return_, 1) := by decide +kernel
theorem dX3_exchangeNext_0 : decode cX3_exchangeNext 0 = .ok (.iload_n 2, 1) := by decide +kernel
theorem dX3_exchangeNext_1 : decode cX3_exchangeNext 1 = .ok (.iconst 5, 1) := by decide +kernel
theorem dX3_exchangeNext_2 : decode cX3_exchangeNext 2 = .ok (.idiv, 1) := by decide +kernel
theorem dX3_exchangeNext_3 : decode cX3_exchangeNext 3 = .ok (.istore_n 3, 1) := by decide +kernel
theorem dX3_exchangeNext_4 : decode cX3_exchangeNext 4 = .ok (.iload_n 2, 1) := by decide +kernel
theorem dX3_exchangeNext_5 : decode cX3_exchangeNext 5 = .ok (.iconst 5, 1) := by decide +kernel
theorem dX3_exchangeNext_6 : decode cX3_exchangeNext 6 = .ok (.irem, 1) := by decide +kernel
theorem dX3_exchangeNext_7 : decode cX3_exchangeNext 7 = .ok (.istore 4, 2) := by decide +kernel
theorem dX3_exchangeNext_9 : decode cX3_exchangeNext 9 = .ok (.aload_n 0, 1) := by decide +kernel
theorem dX3_exchangeNext_10 : decode cX3_exchangeNext 10 = .ok (.getfield 26, 3) := by decide +kernel
theorem dX3_exchangeNext_13 : decode cX3_exchangeNext 13 = .ok (.iload_n 1, 1) := by decide +kernel
theorem dX3_exchangeNext_14 : decode cX3_exchangeNext 14 = .ok (.invokevirtual 62, 3) := by decide +kernel
theorem dX3_exchangeNext_17 : decode cX3_exchangeNext 17 = .ok (.istore 5, 2) := by decide +kernel
theorem dX3_exchangeNext_19 : decode cX3_exchangeNext 19 = .ok (.iconst 0, 1) := by decide +kernel
theorem dX3_exchangeNext_20 : decode cX3_exchangeNext 20 = .ok (.istore 6, 2) := by decide +kernel
theorem dX3_exchangeNext_22 : decode cX3_exchangeNext 22 = .ok (.iload 6, 2) := by decide +kernel
theorem dX3_exchangeNext_24 : decode cX3_exchangeNext 24 = .ok (.iload 5, 2) := by decide +kernel
theorem dX3_exchangeNext_26 : decode cX3_exchangeNext 26 = .ok (.if_icmp .ge 102, 3) := by decide +kernel
theorem dX3_exchangeNext_29 : decode cX3_exchangeNext 29 = .ok (.iload 6, 2) := by decide +kernel
theorem dX3_exchangeNext_31 : decode cX3_exchangeNext 31 = .ok (.iconst 1, 1) := by decide +kernel
theorem dX3_exchangeNext_32 : decode cX3_exchangeNext 32 = .ok (.iadd, 1) := by decide +kernel
theorem dX3_exchangeNext_33 : decode cX3_exchangeNext 33 = .ok (.istore 7, 2) := by decide +kernel
theorem dX3_exchangeNext_35 : decode cX3_exchangeNext 35 = .ok (.iload 7, 2) := by decide +kernel
theorem dX3_exchangeNext_37 : decode cX3_exchangeNext 37 = .ok (.iload 5, 2) := by decide +kernel
theorem dX3_exchangeNext_39 : decode cX3_exchangeNext 39 = .ok (.if_icmp .ge 83, 3) := by decide +kernel
theorem dX3_exchangeNext_42 : decode cX3_exchangeNext 42 = .ok (.aload_n 0, 1) := by decide +kernel
theorem dX3_exchangeNext_43 : decode cX3_exchangeNext 43 = .ok (.iload 6, 2) := by decide +kernel
theorem dX3_exchangeNext_45 : decode cX3_exchangeNext 45 = .ok (.iload 7, 2) := by decide +kernel
theorem dX3_exchangeNext_47 : decode cX3_exchangeNext 47 = .ok (.iload 4, 2) := by decide +kernel
theorem dX3_exchangeNext_49 : decode cX3_exchangeNext 49 = .ok (.iload_n 3, 1) := by decide +kernel
theorem dX3_exchangeNext_50 : decode cX3_exchangeNext 50 = .ok (.invokevirtual 74, 3) := by decide +kernel
theorem dX3_exchangeNext_53 : decode cX3_exchangeNext 53 = .ok (.aload_n 0, 1) := by decide +kernel
theorem dX3_exchangeNext_54 : decode cX3_exchangeNext 54 = .ok (.iload 6, 2) := by decide +kernel
theorem dX3_exchangeNext_56 : decode cX3_exchangeNext 56 = .ok (.iload 7, 2) := by decide +kernel
theorem dX3_exchangeNext_58 : decode cX3_exchangeNext 58 = .ok (.iload_n 3, 1) := by decide +kernel
theorem dX3_exchangeNext_59 : decode cX3_exchangeNext 59 = .ok (.iload 4, 2) := by decide +kernel
theorem dX3_exchangeNext_61 : decode cX3_exchangeNext 61 = .ok (.invokevirtual 74, 3) := by decide +kernel
theorem dX3_exchangeNext_64 : decode cX3_exchangeNext 64 = .ok (.isub, 1) := by decide +kernel
theorem dX3_exchangeNext_65 : decode cX3_exchangeNext 65 = .ok (.istore 8, 2) := by decide +kernel
theorem dX3_exchangeNext_67 : decode cX3_exchangeNext 67 = .ok (.aload_n 0, 1) := by decide +kernel
theorem dX3_exchangeNext_68 : decode cX3_exchangeNext 68 = .ok (.dup, 1) := by decide +kernel
theorem dX3_exchangeNext_69 : decode cX3_exchangeNext 69 = .ok (.getfield 18, 3) := by decide +kernel
theorem dX3_exchangeNext_72 : decode cX3_exchangeNext 72 = .ok (.iload 8, 2) := by decide +kernel
theorem dX3_exchangeNext_74 : decode cX3_exchangeNext 74 = .ok (.iadd, 1) := by decide +kernel
theorem dX3_exchangeNext_75 : decode cX3_exchangeNext 75 = .ok (.putfield 18, 3) := by decide +kernel
theorem dX3_exchangeNext_78 : decode cX3_exchangeNext 78 = .ok (.aload_n 0, 1) := by decide +kernel
theorem dX3_exchangeNext_79 : decode cX3_exchangeNext 79 = .ok (.getfield 15, 3) := by decide +kernel
theorem dX3_exchangeNext_82 : decode cX3_exchangeNext 82 = .ok (.iload 6, 2) := by decide +kernel
theorem dX3_exchangeNext_84 : decode cX3_exchangeNext 84 = .ok (.iload 7, 2) := by decide +kernel
theorem dX3_exchangeNext_86 : decode cX3_exchangeNext 86 = .ok (.invokestatic 78, 3) := by decide +kernel
theorem dX3_exchangeNext_89 : decode cX3_exchangeNext 89 = .ok (.dup2, 1) := by decide +kernel
theorem dX3_exchangeNext_90 : decode cX3_exchangeNext 90 = .ok (.iaload, 1) := by decide +kernel
theorem dX3_exchangeNext_91 : decode cX3_exchangeNext 91 = .ok (.iconst 2, 1) := by decide +kernel
theorem dX3_exchangeNext_92 : decode cX3_exchangeNext 92 = .ok (.iload 8, 2) := by decide +kernel
theorem dX3_exchangeNext_94 : decode cX3_exchangeNext 94 = .ok (.imul, 1) := by decide +kernel
theorem dX3_exchangeNext_95 : decode cX3_exchangeNext 95 = .ok (.isub, 1) := by decide +kernel
theorem dX3_exchangeNext_96 : decode cX3_exchangeNext 96 = .ok (.iastore, 1) := by decide +kernel
theorem dX3_exchangeNext_97 : decode cX3_exchangeNext 97 = .ok (.aload_n 0, 1) := by decide +kernel
theorem dX3_exchangeNext_98 : decode cX3_exchangeNext 98 = .ok (.getfield 15, 3) := by decide +kernel
theorem dX3_exchangeNext_101 : decode cX3_exchangeNext 101 = .ok (.iload 7, 2) := by decide +kernel
theorem dX3_exchangeNext_103 : decode cX3_exchangeNext 103 = .ok (.iload 6, 2) := by decide +kernel
theorem dX3_exchangeNext_105 : decode cX3_exchangeNext 105 = .ok (.invokestatic 78, 3) := by decide +kernel
theorem dX3_exchangeNext_108 : decode cX3_exchangeNext 108 = .ok (.dup2, 1) := by decide +kernel
theorem dX3_exchangeNext_109 : decode cX3_exchangeNext 109 = .ok (.iaload, 1) := by decide +kernel
theorem dX3_exchangeNext_110 : decode cX3_exchangeNext 110 = .ok (.iconst 2, 1) := by decide +kernel
theorem dX3_exchangeNext_111 : decode cX3_exchangeNext 111 = .ok (.iload 8, 2) := by decide +kernel
theorem dX3_exchangeNext_113 : decode cX3_exchangeNext 113 = .ok (.imul, 1) := by decide +kernel
theorem dX3_exchangeNext_114 : decode cX3_exchangeNext 114 = .ok (.iadd, 1) := by decide +kernel
theorem dX3_exchangeNext_115 : decode cX3_exchangeNext 115 = .ok (.iastore, 1) := by decide +kernel
theorem dX3_exchangeNext_116 : decode cX3_exchangeNext 116 = .ok (.iinc 7 1, 3) := by decide +kernel
theorem dX3_exchangeNext_119 : decode cX3_exchangeNext 119 = .ok (.goto (-84), 3) := by decide +kernel
theorem dX3_exchangeNext_122 : decode cX3_exchangeNext 122 = .ok (.iinc 6 1, 3) := by decide +kernel
theorem dX3_exchangeNext_125 : decode cX3_exchangeNext 125 = .ok (.goto (-103), 3) := by decide +kernel
theorem dX3_exchangeNext_128 : decode cX3_exchangeNext 128 = .ok (.return_, 1) := by decide +kernel
theorem dX3_crossing_0 : decode cX3_crossing 0 = .ok (.aload_n 0, 1) := by decide +kernel
theorem dX3_crossing_1 : decode cX3_crossing 1 = .ok (.getfield 9, 3) := by decide +kernel
theorem dX3_crossing_4 : decode cX3_crossing 4 = .ok (.iload_n 1, 1) := by decide +kernel
theorem dX3_crossing_5 : decode cX3_crossing 5 = .ok (.iload 4, 2) := by decide +kernel
theorem dX3_crossing_7 : decode cX3_crossing 7 = .ok (.invokestatic 78, 3) := by decide +kernel
theorem dX3_crossing_10 : decode cX3_crossing 10 = .ok (.iaload, 1) := by decide +kernel
theorem dX3_crossing_11 : decode cX3_crossing 11 = .ok (.aload_n 0, 1) := by decide +kernel
theorem dX3_crossing_12 : decode cX3_crossing 12 = .ok (.getfield 9, 3) := by decide +kernel
theorem dX3_crossing_15 : decode cX3_crossing 15 = .ok (.iload_n 2, 1) := by decide +kernel
theorem dX3_crossing_16 : decode cX3_crossing 16 = .ok (.iload_n 3, 1) := by decide +kernel
theorem dX3_crossing_17 : decode cX3_crossing 17 = .ok (.invokestatic 78, 3) := by decide +kernel
theorem dX3_crossing_20 : decode cX3_crossing 20 = .ok (.iaload, 1) := by decide +kernel
theorem dX3_crossing_21 : decode cX3_crossing 21 = .ok (.imul, 1) := by decide +kernel
theorem dX3_crossing_22 : decode cX3_crossing 22 = .ok (.ireturn, 1) := by decide +kernel
theorem dX3_putLink_0 : decode cX3_putLink 0 = .ok (.iload_n 1, 1) := by decide +kernel
theorem dX3_putLink_1 : decode cX3_putLink 1 = .ok (.ifCond .lt 28, 3) := by decide +kernel
theorem dX3_putLink_4 : decode cX3_putLink 4 = .ok (.iload_n 1, 1) := by decide +kernel
theorem dX3_putLink_5 : decode cX3_putLink 5 = .ok (.iconst 5, 1) := by decide +kernel
theorem dX3_putLink_6 : decode cX3_putLink 6 = .ok (.if_icmp .ge 23, 3) := by decide +kernel
theorem dX3_putLink_9 : decode cX3_putLink 9 = .ok (.iload_n 2, 1) := by decide +kernel
theorem dX3_putLink_10 : decode cX3_putLink 10 = .ok (.ifCond .lt 19, 3) := by decide +kernel
theorem dX3_putLink_13 : decode cX3_putLink 13 = .ok (.iload_n 2, 1) := by decide +kernel
theorem dX3_putLink_14 : decode cX3_putLink 14 = .ok (.iconst 5, 1) := by decide +kernel
theorem dX3_putLink_15 : decode cX3_putLink 15 = .ok (.if_icmp .ge 14, 3) := by decide +kernel
theorem dX3_putLink_18 : decode cX3_putLink 18 = .ok (.aload_n 0, 1) := by decide +kernel
theorem dX3_putLink_19 : decode cX3_putLink 19 = .ok (.getfield 9, 3) := by decide +kernel
theorem dX3_putLink_22 : decode cX3_putLink 22 = .ok (.iload_n 1, 1) := by decide +kernel
theorem dX3_putLink_23 : decode cX3_putLink 23 = .ok (.iload_n 2, 1) := by decide +kernel
theorem dX3_putLink_24 : decode cX3_putLink 24 = .ok (.invokestatic 78, 3) := by decide +kernel
theorem dX3_putLink_27 : decode cX3_putLink 27 = .ok (.iload_n 3, 1) := by decide +kernel
theorem dX3_putLink_28 : decode cX3_putLink 28 = .ok (.iastore, 1) := by decide +kernel
theorem dX3_putLink_29 : decode cX3_putLink 29 = .ok (.return_, 1) := by decide +kernel
theorem dX4_init_0 : decode cX4_init 0 = .ok (.aload_n 0, 1) := by decide +kernel
theorem dX4_init_1 : decode cX4_init 1 = .ok (.invokespecial 3, 3) := by decide +kernel
theorem dX4_init_4 : decode cX4_init 4 = .ok (.aload_n 0, 1) := by decide +kernel
theorem dX4_init_5 : decode cX4_init 5 = .ok (.bipush 10, 2) := by decide +kernel
theorem dX4_init_7 : decode cX4_init 7 = .ok (.newarray .int, 2) := by decide +kernel
theorem dX4_init_9 : decode cX4_init 9 = .ok (.putfield 9, 3) := by decide +kernel
theorem dX4_init_12 : decode cX4_init 12 = .ok (.aload_n 0, 1) := by decide +kernel
theorem dX4_init_13 : decode cX4_init 13 = .ok (.bipush 10, 2) := by decide +kernel
theorem dX4_init_15 : decode cX4_init 15 = .ok (.newarray .int, 2) := by decide +kernel
theorem dX4_init_17 : decode cX4_init 17 = .ok (.putfield 15, 3) := by decide +kernel
theorem dX4_init_20 : decode cX4_init 20 = .ok (.aload_n 0, 1) := by decide +kernel
theorem dX4_init_21 : decode cX4_init 21 = .ok (.iconst 0, 1) := by decide +kernel
theorem dX4_init_22 : decode cX4_init 22 = .ok (.putfield 18, 3) := by decide +kernel
theorem dX4_init_25 : decode cX4_init 25 = .ok (.aload_n 0, 1) := by decide +kernel
theorem dX4_init_26 : decode cX4_init 26 = .ok (.getfield 9, 3) := by decide +kernel
theorem dX4_init_29 : decode cX4_init 29 = .ok (.iconst (-1), 1) := by decide +kernel
theorem dX4_init_30 : decode cX4_init 30 = .ok (.invokestatic 22, 3) := by decide +kernel
theorem dX4_init_33 : decode cX4_init 33 = .ok (.return_, 1) := by decide +kernel
theorem dX4_holds_0 : decode cX4_holds 0 = .ok (.aload_n 0, 1) := by decide +kernel
theorem dX4_holds_1 : decode cX4_holds 1 = .ok (.getfield 18, 3) := by decide +kernel
theorem dX4_holds_4 : decode cX4_holds 4 = .ok (.ireturn, 1) := by decide +kernel
theorem dX4_hold_0 : decode cX4_hold 0 = .ok (.aload_n 0, 1) := by decide +kernel
theorem dX4_hold_1 : decode cX4_hold 1 = .ok (.iconst 1, 1) := by decide +kernel
theorem dX4_hold_2 : decode cX4_hold 2 = .ok (.putfield 18, 3) := by decide +kernel
theorem dX4_hold_5 : decode cX4_hold 5 = .ok (.return_, 1) := by decide +kernel
theorem dX4_empty_0 : decode cX4_empty 0 = .ok (.aload_n 0, 1) := by decide +kernel
theorem dX4_empty_1 : decode cX4_empty 1 = .ok (.getfield 9, 3) := by decide +kernel
theorem dX4_empty_4 : decode cX4_empty 4 = .ok (.iconst (-1), 1) := by decide +kernel
theorem dX4_empty_5 : decode cX4_empty 5 = .ok (.invokestatic 22, 3) := by decide +kernel
theorem dX4_empty_8 : decode cX4_empty 8 = .ok (.aload_n 0, 1) := by decide +kernel
theorem dX4_empty_9 : decode cX4_empty 9 = .ok (.iconst 0, 1) := by decide +kernel
theorem dX4_empty_10 : decode cX4_empty 10 = .ok (.putfield 18, 3) := by decide +kernel
theorem dX4_empty_13 : decode cX4_empty 13 = .ok (.return_, 1) := by decide +kernel
theorem dX4_note_0 : decode cX4_note 0 = .ok (.iload_n 1, 1) := by decide +kernel
theorem dX4_note_1 : decode cX4_note 1 = .ok (.invokestatic 28, 3) := by decide +kernel
theorem dX4_note_4 : decode cX4_note 4 = .ok (.ifCond .eq 17, 3) := by decide +kernel
theorem dX4_note_7 : decode cX4_note 7 = .ok (.aload_n 0, 1) := by decide +kernel
theorem dX4_note_8 : decode cX4_note 8 = .ok (.getfield 9, 3) := by decide +kernel
theorem dX4_note_11 : decode cX4_note 11 = .ok (.iload_n 1, 1) := by decide +kernel
theorem dX4_note_12 : decode cX4_note 12 = .ok (.iload_n 2, 1) := by decide +kernel
theorem dX4_note_13 : decode cX4_note 13 = .ok (.iastore, 1) := by decide +kernel
theorem dX4_note_14 : decode cX4_note 14 = .ok (.aload_n 0, 1) := by decide +kernel
theorem dX4_note_15 : decode cX4_note 15 = .ok (.getfield 15, 3) := by decide +kernel
theorem dX4_note_18 : decode cX4_note 18 = .ok (.iload_n 1, 1) := by decide +kernel
theorem dX4_note_19 : decode cX4_note 19 = .ok (.iload_n 3, 1) := by decide +kernel
theorem dX4_note_20 : decode cX4_note 20 = .ok (.iastore, 1) := by decide +kernel
theorem dX4_note_21 : decode cX4_note 21 = .ok (.return_, 1) := by decide +kernel
theorem dX4_moves_0 : decode cX4_moves 0 = .ok (.iload_n 1, 1) := by decide +kernel
theorem dX4_moves_1 : decode cX4_moves 1 = .ok (.iload_n 2, 1) := by decide +kernel
theorem dX4_moves_2 : decode cX4_moves 2 = .ok (.invokestatic 32, 3) := by decide +kernel
theorem dX4_moves_5 : decode cX4_moves 5 = .ok (.ifCond .eq 13, 3) := by decide +kernel
theorem dX4_moves_8 : decode cX4_moves 8 = .ok (.aload_n 0, 1) := by decide +kernel
theorem dX4_moves_9 : decode cX4_moves 9 = .ok (.getfield 9, 3) := by decide +kernel
theorem dX4_moves_12 : decode cX4_moves 12 = .ok (.iload_n 1, 1) := by decide +kernel
theorem dX4_moves_13 : decode cX4_moves 13 = .ok (.iaload, 1) := by decide +kernel
theorem dX4_moves_14 : decode cX4_moves 14 = .ok (.iconst (-1), 1) := by decide +kernel
theorem dX4_moves_15 : decode cX4_moves 15 = .ok (.if_icmp .ne 5, 3) := by decide +kernel
theorem dX4_moves_18 : decode cX4_moves 18 = .ok (.iconst 0, 1) := by decide +kernel
theorem dX4_moves_19 : decode cX4_moves 19 = .ok (.ireturn, 1) := by decide +kernel
theorem dX4_moves_20 : decode cX4_moves 20 = .ok (.aload_n 0, 1) := by decide +kernel
theorem dX4_moves_21 : decode cX4_moves 21 = .ok (.getfield 9, 3) := by decide +kernel
theorem dX4_moves_24 : decode cX4_moves 24 = .ok (.iload_n 1, 1) := by decide +kernel
theorem dX4_moves_25 : decode cX4_moves 25 = .ok (.iaload, 1) := by decide +kernel
theorem dX4_moves_26 : decode cX4_moves 26 = .ok (.aload_n 0, 1) := by decide +kernel
theorem dX4_moves_27 : decode cX4_moves 27 = .ok (.getfield 9, 3) := by decide +kernel
theorem dX4_moves_30 : decode cX4_moves 30 = .ok (.iload_n 2, 1) := by decide +kernel
theorem dX4_moves_31 : decode cX4_moves 31 = .ok (.iaload, 1) := by decide +kernel
theorem dX4_moves_32 : decode cX4_moves 32 = .ok (.if_icmp .ne 22, 3) := by decide +kernel
theorem dX4_moves_35 : decode cX4_moves 35 = .ok (.aload_n 0, 1) := by decide +kernel
theorem dX4_moves_36 : decode cX4_moves 36 = .ok (.getfield 15, 3) := by decide +kernel
theorem dX4_moves_39 : decode cX4_moves 39 = .ok (.iload_n 1, 1) := by decide +kernel
theorem dX4_moves_40 : decode cX4_moves 40 = .ok (.iaload, 1) := by decide +kernel
theorem dX4_moves_41 : decode cX4_moves 41 = .ok (.aload_n 0, 1) := by decide +kernel
theorem dX4_moves_42 : decode cX4_moves 42 = .ok (.getfield 15, 3) := by decide +kernel
theorem dX4_moves_45 : decode cX4_moves 45 = .ok (.iload_n 2, 1) := by decide +kernel
theorem dX4_moves_46 : decode cX4_moves 46 = .ok (.iaload, 1) := by decide +kernel
theorem dX4_moves_47 : decode cX4_moves 47 = .ok (.if_icmp .le 7, 3) := by decide +kernel
theorem dX4_moves_50 : decode cX4_moves 50 = .ok (.iconst 1, 1) := by decide +kernel
theorem dX4_moves_51 : decode cX4_moves 51 = .ok (.goto 4, 3) := by decide +kernel
theorem dX4_moves_54 : decode cX4_moves 54 = .ok (.iconst 0, 1) := by decide +kernel
theorem dX4_moves_55 : decode cX4_moves 55 = .ok (.ireturn, 1) := by decide +kernel
theorem dX5_init_0 : decode cX5_init 0 = .ok (.aload_n 0, 1) := by decide +kernel
theorem dX5_init_1 : decode cX5_init 1 = .ok (.invokespecial 3, 3) := by decide +kernel
theorem dX5_init_4 : decode cX5_init 4 = .ok (.aload_n 0, 1) := by decide +kernel
theorem dX5_init_5 : decode cX5_init 5 = .ok (.bipush 10, 2) := by decide +kernel
theorem dX5_init_7 : decode cX5_init 7 = .ok (.newarray .int, 2) := by decide +kernel
theorem dX5_init_9 : decode cX5_init 9 = .ok (.putfield 9, 3) := by decide +kernel
theorem dX5_init_12 : decode cX5_init 12 = .ok (.aload_n 0, 1) := by decide +kernel
theorem dX5_init_13 : decode cX5_init 13 = .ok (.iconst 0, 1) := by decide +kernel
theorem dX5_init_14 : decode cX5_init 14 = .ok (.putfield 15, 3) := by decide +kernel
theorem dX5_init_17 : decode cX5_init 17 = .ok (.aload_n 0, 1) := by decide +kernel
theorem dX5_init_18 : decode cX5_init 18 = .ok (.bipush 11, 2) := by decide +kernel
theorem dX5_init_20 : decode cX5_init 20 = .ok (.newarray .int, 2) := by decide +kernel
theorem dX5_init_22 : decode cX5_init 22 = .ok (.putfield 19, 3) := by decide +kernel
theorem dX5_init_25 : decode cX5_init 25 = .ok (.aload_n 0, 1) := by decide +kernel
theorem dX5_init_26 : decode cX5_init 26 = .ok (.bipush 16, 2) := by decide +kernel
theorem dX5_init_28 : decode cX5_init 28 = .ok (.newarray .int, 2) := by decide +kernel
theorem dX5_init_30 : decode cX5_init 30 = .ok (.putfield 22, 3) := by decide +kernel
theorem dX5_init_33 : decode cX5_init 33 = .ok (.aload_n 0, 1) := by decide +kernel
theorem dX5_init_34 : decode cX5_init 34 = .ok (.bipush 16, 2) := by decide +kernel
theorem dX5_init_36 : decode cX5_init 36 = .ok (.newarray .int, 2) := by decide +kernel
theorem dX5_init_38 : decode cX5_init 38 = .ok (.putfield 25, 3) := by decide +kernel
theorem dX5_init_41 : decode cX5_init 41 = .ok (.aload_n 0, 1) := by decide +kernel
theorem dX5_init_42 : decode cX5_init 42 = .ok (.sipush 1024, 3) := by decide +kernel
theorem dX5_init_45 : decode cX5_init 45 = .ok (.newarray .int, 2) := by decide +kernel
theorem dX5_init_47 : decode cX5_init 47 = .ok (.putfield 28, 3) := by decide +kernel
theorem dX5_init_50 : decode cX5_init 50 = .ok (.aload_n 0, 1) := by decide +kernel
theorem dX5_init_51 : decode cX5_init 51 = .ok (.bipush 10, 2) := by decide +kernel
theorem dX5_init_53 : decode cX5_init 53 = .ok (.newarray .int, 2) := by decide +kernel
theorem dX5_init_55 : decode cX5_init 55 = .ok (.putfield 31, 3) := by decide +kernel
theorem dX5_init_58 : decode cX5_init 58 = .ok (.aload_n 0, 1) := by decide +kernel
theorem dX5_init_59 : decode cX5_init 59 = .ok (.bipush 10, 2) := by decide +kernel
theorem dX5_init_61 : decode cX5_init 61 = .ok (.newarray .int, 2) := by decide +kernel
theorem dX5_init_63 : decode cX5_init 63 = .ok (.putfield 34, 3) := by decide +kernel
theorem dX5_init_66 : decode cX5_init 66 = .ok (.aload_n 0, 1) := by decide +kernel
theorem dX5_init_67 : decode cX5_init 67 = .ok (.bipush 10, 2) := by decide +kernel
theorem dX5_init_69 : decode cX5_init 69 = .ok (.newarray .int, 2) := by decide +kernel
theorem dX5_init_71 : decode cX5_init 71 = .ok (.putfield 37, 3) := by decide +kernel
theorem dX5_init_74 : decode cX5_init 74 = .ok (.aload_n 0, 1) := by decide +kernel
theorem dX5_init_75 : decode cX5_init 75 = .ok (.bipush 100, 2) := by decide +kernel
theorem dX5_init_77 : decode cX5_init 77 = .ok (.newarray .int, 2) := by decide +kernel
theorem dX5_init_79 : decode cX5_init 79 = .ok (.putfield 40, 3) := by decide +kernel
theorem dX5_init_82 : decode cX5_init 82 = .ok (.aload_n 0, 1) := by decide +kernel
theorem dX5_init_83 : decode cX5_init 83 = .ok (.iconst 0, 1) := by decide +kernel
theorem dX5_init_84 : decode cX5_init 84 = .ok (.putfield 43, 3) := by decide +kernel
theorem dX5_init_87 : decode cX5_init 87 = .ok (.aload_n 0, 1) := by decide +kernel
theorem dX5_init_88 : decode cX5_init 88 = .ok (.iconst 0, 1) := by decide +kernel
theorem dX5_init_89 : decode cX5_init 89 = .ok (.putfield 46, 3) := by decide +kernel
theorem dX5_init_92 : decode cX5_init 92 = .ok (.aload_n 0, 1) := by decide +kernel
theorem dX5_init_93 : decode cX5_init 93 = .ok (.iconst 0, 1) := by decide +kernel
theorem dX5_init_94 : decode cX5_init 94 = .ok (.putfield 49, 3) := by decide +kernel
theorem dX5_init_97 : decode cX5_init 97 = .ok (.aload_n 0, 1) := by decide +kernel
theorem dX5_init_98 : decode cX5_init 98 = .ok (.aload_n 1, 1) := by decide +kernel
theorem dX5_init_99 : decode cX5_init 99 = .ok (.putfield 52, 3) := by decide +kernel
theorem dX5_init_102 : decode cX5_init 102 = .ok (.return_, 1) := by decide +kernel
theorem dX5_rank_0 : decode cX5_rank 0 = .ok (.aload_n 0, 1) := by decide +kernel
theorem dX5_rank_1 : decode cX5_rank 1 = .ok (.invokevirtual 56, 3) := by decide +kernel
theorem dX5_rank_4 : decode cX5_rank 4 = .ok (.aload_n 0, 1) := by decide +kernel
theorem dX5_rank_5 : decode cX5_rank 5 = .ok (.invokevirtual 59, 3) := by decide +kernel
theorem dX5_rank_8 : decode cX5_rank 8 = .ok (.aload_n 0, 1) := by decide +kernel
theorem dX5_rank_9 : decode cX5_rank 9 = .ok (.invokevirtual 62, 3) := by decide +kernel
theorem dX5_rank_12 : decode cX5_rank 12 = .ok (.aload_n 0, 1) := by decide +kernel
theorem dX5_rank_13 : decode cX5_rank 13 = .ok (.invokevirtual 65, 3) := by decide +kernel
theorem dX5_rank_16 : decode cX5_rank 16 = .ok (.aload_n 0, 1) := by decide +kernel
theorem dX5_rank_17 : decode cX5_rank 17 = .ok (.invokevirtual 68, 3) := by decide +kernel
theorem dX5_rank_20 : decode cX5_rank 20 = .ok (.aload_n 0, 1) := by decide +kernel
theorem dX5_rank_21 : decode cX5_rank 21 = .ok (.invokevirtual 71, 3) := by decide +kernel
theorem dX5_rank_24 : decode cX5_rank 24 = .ok (.return_, 1) := by decide +kernel
theorem dX5_placeAt_0 : decode cX5_placeAt 0 = .ok (.iload_n 1, 1) := by decide +kernel
theorem dX5_placeAt_1 : decode cX5_placeAt 1 = .ok (.ifCond .lt 20, 3) := by decide +kernel
theorem dX5_placeAt_4 : decode cX5_placeAt 4 = .ok (.iload_n 1, 1) := by decide +kernel
theorem dX5_placeAt_5 : decode cX5_placeAt 5 = .ok (.aload_n 0, 1) := by decide +kernel
theorem dX5_placeAt_6 : decode cX5_placeAt 6 = .ok (.getfield 15, 3) := by decide +kernel
theorem dX5_placeAt_9 : decode cX5_placeAt 9 = .ok (.if_icmp .ge 12, 3) := by decide +kernel
theorem dX5_placeAt_12 : decode cX5_placeAt 12 = .ok (.aload_n 0, 1) := by decide +kernel
theorem dX5_placeAt_13 : decode cX5_placeAt 13 = .ok (.getfield 31, 3) := by decide +kernel
theorem dX5_placeAt_16 : decode cX5_placeAt 16 = .ok (.iload_n 1, 1) := by decide +kernel
theorem dX5_placeAt_17 : decode cX5_placeAt 17 = .ok (.iaload, 1) := by decide +kernel
theorem dX5_placeAt_18 : decode cX5_placeAt 18 = .ok (.goto 4, 3) := by decide +kernel
theorem dX5_placeAt_21 : decode cX5_placeAt 21 = .ok (.iconst (-1), 1) := by decide +kernel
theorem dX5_placeAt_22 : decode cX5_placeAt 22 = .ok (.ireturn, 1) := by decide +kernel
theorem dX5_layerOf_0 : decode cX5_layerOf 0 = .ok (.aload_n 0, 1) := by decide +kernel
theorem dX5_layerOf_1 : decode cX5_layerOf 1 = .ok (.getfield 37, 3) := by decide +kernel
theorem dX5_layerOf_4 : decode cX5_layerOf 4 = .ok (.iload_n 1, 1) := by decide +kernel
theorem dX5_layerOf_5 : decode cX5_layerOf 5 = .ok (.iaload, 1) := by decide +kernel
theorem dX5_layerOf_6 : decode cX5_layerOf 6 = .ok (.ireturn, 1) := by decide +kernel
theorem dX5_layers_0 : decode cX5_layers 0 = .ok (.aload_n 0, 1) := by decide +kernel
theorem dX5_layers_1 : decode cX5_layers 1 = .ok (.getfield 43, 3) := by decide +kernel
theorem dX5_layers_4 : decode cX5_layers 4 = .ok (.ireturn, 1) := by decide +kernel
theorem dX5_turnedNumber_0 : decode cX5_turnedNumber 0 = .ok (.aload_n 0, 1) := by decide +kernel
theorem dX5_turnedNumber_1 : decode cX5_turnedNumber 1 = .ok (.getfield 46, 3) := by decide +kernel
theorem dX5_turnedNumber_4 : decode cX5_turnedNumber 4 = .ok (.ireturn, 1) := by decide +kernel
theorem dX5_turnedSum_0 : decode cX5_turnedSum 0 = .ok (.aload_n 0, 1) := by decide +kernel
theorem dX5_turnedSum_1 : decode cX5_turnedSum 1 = .ok (.getfield 49, 3) := by decide +kernel
theorem dX5_turnedSum_4 : decode cX5_turnedSum 4 = .ok (.ireturn, 1) := by decide +kernel
theorem dX5_turns_0 : decode cX5_turns 0 = .ok (.aload_n 0, 1) := by decide +kernel
theorem dX5_turns_1 : decode cX5_turns 1 = .ok (.getfield 34, 3) := by decide +kernel
theorem dX5_turns_4 : decode cX5_turns 4 = .ok (.iload_n 2, 1) := by decide +kernel
theorem dX5_turns_5 : decode cX5_turns 5 = .ok (.iaload, 1) := by decide +kernel
theorem dX5_turns_6 : decode cX5_turns 6 = .ok (.aload_n 0, 1) := by decide +kernel
theorem dX5_turns_7 : decode cX5_turns 7 = .ok (.getfield 34, 3) := by decide +kernel
theorem dX5_turns_10 : decode cX5_turns 10 = .ok (.iload_n 1, 1) := by decide +kernel
theorem dX5_turns_11 : decode cX5_turns 11 = .ok (.iaload, 1) := by decide +kernel
theorem dX5_turns_12 : decode cX5_turns 12 = .ok (.if_icmp .ge 7, 3) := by decide +kernel
theorem dX5_turns_15 : decode cX5_turns 15 = .ok (.iconst 1, 1) := by decide +kernel
theorem dX5_turns_16 : decode cX5_turns 16 = .ok (.goto 4, 3) := by decide +kernel
theorem dX5_turns_19 : decode cX5_turns 19 = .ok (.iconst 0, 1) := by decide +kernel
theorem dX5_turns_20 : decode cX5_turns 20 = .ok (.ireturn, 1) := by decide +kernel
theorem dX5_straight_0 : decode cX5_straight 0 = .ok (.iload_n 1, 1) := by decide +kernel
theorem dX5_straight_1 : decode cX5_straight 1 = .ok (.iload_n 2, 1) := by decide +kernel
theorem dX5_straight_2 : decode cX5_straight 2 = .ok (.invokestatic 74, 3) := by decide +kernel
theorem dX5_straight_5 : decode cX5_straight 5 = .ok (.ifCond .eq 17, 3) := by decide +kernel
theorem dX5_straight_8 : decode cX5_straight 8 = .ok (.aload_n 0, 1) := by decide +kernel
theorem dX5_straight_9 : decode cX5_straight 9 = .ok (.getfield 40, 3) := by decide +kernel
theorem dX5_straight_12 : decode cX5_straight 12 = .ok (.iload_n 1, 1) := by decide +kernel
theorem dX5_straight_13 : decode cX5_straight 13 = .ok (.bipush 10, 2) := by decide +kernel
theorem dX5_straight_15 : decode cX5_straight 15 = .ok (.imul, 1) := by decide +kernel
theorem dX5_straight_16 : decode cX5_straight 16 = .ok (.iload_n 2, 1) := by decide +kernel
theorem dX5_straight_17 : decode cX5_straight 17 = .ok (.iadd, 1) := by decide +kernel
theorem dX5_straight_18 : decode cX5_straight 18 = .ok (.iaload, 1) := by decide +kernel
theorem dX5_straight_19 : decode cX5_straight 19 = .ok (.goto 4, 3) := by decide +kernel
theorem dX5_straight_22 : decode cX5_straight 22 = .ok (.iconst 0, 1) := by decide +kernel
theorem dX5_straight_23 : decode cX5_straight 23 = .ok (.ireturn, 1) := by decide +kernel
theorem dX5_links_0 : decode cX5_links 0 = .ok (.aload_n 0, 1) := by decide +kernel
theorem dX5_links_1 : decode cX5_links 1 = .ok (.getfield 40, 3) := by decide +kernel
theorem dX5_links_4 : decode cX5_links 4 = .ok (.iload_n 1, 1) := by decide +kernel
theorem dX5_links_5 : decode cX5_links 5 = .ok (.bipush 10, 2) := by decide +kernel
theorem dX5_links_7 : decode cX5_links 7 = .ok (.imul, 1) := by decide +kernel
theorem dX5_links_8 : decode cX5_links 8 = .ok (.iload_n 2, 1) := by decide +kernel
theorem dX5_links_9 : decode cX5_links 9 = .ok (.iadd, 1) := by decide +kernel
theorem dX5_links_10 : decode cX5_links 10 = .ok (.iaload, 1) := by decide +kernel
theorem dX5_links_11 : decode cX5_links 11 = .ok (.ifCond .le 27, 3) := by decide +kernel
theorem dX5_links_14 : decode cX5_links 14 = .ok (.aload_n 0, 1) := by decide +kernel
theorem dX5_links_15 : decode cX5_links 15 = .ok (.getfield 37, 3) := by decide +kernel
theorem dX5_links_18 : decode cX5_links 18 = .ok (.iload_n 1, 1) := by decide +kernel
theorem dX5_links_19 : decode cX5_links 19 = .ok (.iaload, 1) := by decide +kernel
theorem dX5_links_20 : decode cX5_links 20 = .ok (.iload_n 3, 1) := by decide +kernel
theorem dX5_links_21 : decode cX5_links 21 = .ok (.if_icmp .gt 17, 3) := by decide +kernel
theorem dX5_links_24 : decode cX5_links 24 = .ok (.iload_n 3, 1) := by decide +kernel
theorem dX5_links_25 : decode cX5_links 25 = .ok (.aload_n 0, 1) := by decide +kernel
theorem dX5_links_26 : decode cX5_links 26 = .ok (.getfield 37, 3) := by decide +kernel
theorem dX5_links_29 : decode cX5_links 29 = .ok (.iload_n 2, 1) := by decide +kernel
theorem dX5_links_30 : decode cX5_links 30 = .ok (.iaload, 1) := by decide +kernel
theorem dX5_links_31 : decode cX5_links 31 = .ok (.if_icmp .ge 7, 3) := by decide +kernel
theorem dX5_links_34 : decode cX5_links 34 = .ok (.iconst 1, 1) := by decide +kernel
theorem dX5_links_35 : decode cX5_links 35 = .ok (.goto 4, 3) := by decide +kernel
theorem dX5_links_38 : decode cX5_links 38 = .ok (.iconst 0, 1) := by decide +kernel
theorem dX5_links_39 : decode cX5_links 39 = .ok (.ireturn, 1) := by decide +kernel
theorem dX5_itemOf_0 : decode cX5_itemOf 0 = .ok (.iload_n 3, 1) := by decide +kernel
theorem dX5_itemOf_1 : decode cX5_itemOf 1 = .ok (.aload_n 0, 1) := by decide +kernel
theorem dX5_itemOf_2 : decode cX5_itemOf 2 = .ok (.getfield 37, 3) := by decide +kernel
theorem dX5_itemOf_5 : decode cX5_itemOf 5 = .ok (.iload_n 1, 1) := by decide +kernel
theorem dX5_itemOf_6 : decode cX5_itemOf 6 = .ok (.iaload, 1) := by decide +kernel
theorem dX5_itemOf_7 : decode cX5_itemOf 7 = .ok (.if_icmp .ne 5, 3) := by decide +kernel
theorem dX5_itemOf_10 : decode cX5_itemOf 10 = .ok (.iload_n 1, 1) := by decide +kernel
theorem dX5_itemOf_11 : decode cX5_itemOf 11 = .ok (.ireturn, 1) := by decide +kernel
theorem dX5_itemOf_12 : decode cX5_itemOf 12 = .ok (.iload_n 3, 1) := by decide +kernel
theorem dX5_itemOf_13 : decode cX5_itemOf 13 = .ok (.aload_n 0, 1) := by decide +kernel
theorem dX5_itemOf_14 : decode cX5_itemOf 14 = .ok (.getfield 37, 3) := by decide +kernel
theorem dX5_itemOf_17 : decode cX5_itemOf 17 = .ok (.iload_n 2, 1) := by decide +kernel
theorem dX5_itemOf_18 : decode cX5_itemOf 18 = .ok (.iaload, 1) := by decide +kernel
theorem dX5_itemOf_19 : decode cX5_itemOf 19 = .ok (.if_icmp .ne 7, 3) := by decide +kernel
theorem dX5_itemOf_22 : decode cX5_itemOf 22 = .ok (.iload_n 2, 1) := by decide +kernel
theorem dX5_itemOf_23 : decode cX5_itemOf 23 = .ok (.goto 12, 3) := by decide +kernel
theorem dX5_itemOf_26 : decode cX5_itemOf 26 = .ok (.bipush 100, 2) := by decide +kernel
theorem dX5_itemOf_28 : decode cX5_itemOf 28 = .ok (.bipush 10, 2) := by decide +kernel
theorem dX5_itemOf_30 : decode cX5_itemOf 30 = .ok (.iload_n 1, 1) := by decide +kernel
theorem dX5_itemOf_31 : decode cX5_itemOf 31 = .ok (.imul, 1) := by decide +kernel
theorem dX5_itemOf_32 : decode cX5_itemOf 32 = .ok (.iadd, 1) := by decide +kernel
theorem dX5_itemOf_33 : decode cX5_itemOf 33 = .ok (.iload_n 2, 1) := by decide +kernel
theorem dX5_itemOf_34 : decode cX5_itemOf 34 = .ok (.iadd, 1) := by decide +kernel
theorem dX5_itemOf_35 : decode cX5_itemOf 35 = .ok (.ireturn, 1) := by decide +kernel
theorem dX5_gatherUsed_0 : decode cX5_gatherUsed 0 = .ok (.aload_n 0, 1) := by decide +kernel
theorem dX5_gatherUsed_1 : decode cX5_gatherUsed 1 = .ok (.iconst 0, 1) := by decide +kernel
theorem dX5_gatherUsed_2 : decode cX5_gatherUsed 2 = .ok (.putfield 15, 3) := by decide +kernel
theorem dX5_gatherUsed_5 : decode cX5_gatherUsed 5 = .ok (.iconst 0, 1) := by decide +kernel
theorem dX5_gatherUsed_6 : decode cX5_gatherUsed 6 = .ok (.istore_n 1, 1) := by decide +kernel
theorem dX5_gatherUsed_7 : decode cX5_gatherUsed 7 = .ok (.iload_n 1, 1) := by decide +kernel
theorem dX5_gatherUsed_8 : decode cX5_gatherUsed 8 = .ok (.bipush 10, 2) := by decide +kernel
theorem dX5_gatherUsed_10 : decode cX5_gatherUsed 10 = .ok (.if_icmp .ge 40, 3) := by decide +kernel
theorem dX5_gatherUsed_13 : decode cX5_gatherUsed 13 = .ok (.aload_n 0, 1) := by decide +kernel
theorem dX5_gatherUsed_14 : decode cX5_gatherUsed 14 = .ok (.getfield 52, 3) := by decide +kernel
theorem dX5_gatherUsed_17 : decode cX5_gatherUsed 17 = .ok (.iload_n 1, 1) := by decide +kernel
theorem dX5_gatherUsed_18 : decode cX5_gatherUsed 18 = .ok (.invokevirtual 78, 3) := by decide +kernel
theorem dX5_gatherUsed_21 : decode cX5_gatherUsed 21 = .ok (.ifCond .eq 23, 3) := by decide +kernel
theorem dX5_gatherUsed_24 : decode cX5_gatherUsed 24 = .ok (.aload_n 0, 1) := by decide +kernel
theorem dX5_gatherUsed_25 : decode cX5_gatherUsed 25 = .ok (.getfield 9, 3) := by decide +kernel
theorem dX5_gatherUsed_28 : decode cX5_gatherUsed 28 = .ok (.aload_n 0, 1) := by decide +kernel
theorem dX5_gatherUsed_29 : decode cX5_gatherUsed 29 = .ok (.getfield 15, 3) := by decide +kernel
theorem dX5_gatherUsed_32 : decode cX5_gatherUsed 32 = .ok (.iload_n 1, 1) := by decide +kernel
theorem dX5_gatherUsed_33 : decode cX5_gatherUsed 33 = .ok (.iastore, 1) := by decide +kernel
theorem dX5_gatherUsed_34 : decode cX5_gatherUsed 34 = .ok (.aload_n 0, 1) := by decide +kernel
theorem dX5_gatherUsed_35 : decode cX5_gatherUsed 35 = .ok (.dup, 1) := by decide +kernel
theorem dX5_gatherUsed_36 : decode cX5_gatherUsed 36 = .ok (.getfield 15, 3) := by decide +kernel
theorem dX5_gatherUsed_39 : decode cX5_gatherUsed 39 = .ok (.iconst 1, 1) := by decide +kernel
theorem dX5_gatherUsed_40 : decode cX5_gatherUsed 40 = .ok (.iadd, 1) := by decide +kernel
theorem dX5_gatherUsed_41 : decode cX5_gatherUsed 41 = .ok (.putfield 15, 3) := by decide +kernel
theorem dX5_gatherUsed_44 : decode cX5_gatherUsed 44 = .ok (.iinc 1 1, 3) := by decide +kernel
theorem dX5_gatherUsed_47 : decode cX5_gatherUsed 47 = .ok (.goto (-40), 3) := by decide +kernel
theorem dX5_gatherUsed_50 : decode cX5_gatherUsed 50 = .ok (.return_, 1) := by decide +kernel
theorem dX5_gatherSources_0 : decode cX5_gatherSources 0 = .ok (.iconst 0, 1) := by decide +kernel
theorem dX5_gatherSources_1 : decode cX5_gatherSources 1 = .ok (.istore_n 1, 1) := by decide +kernel
theorem dX5_gatherSources_2 : decode cX5_gatherSources 2 = .ok (.iconst 0, 1) := by decide +kernel
theorem dX5_gatherSources_3 : decode cX5_gatherSources 3 = .ok (.istore_n 2, 1) := by decide +kernel
theorem dX5_gatherSources_4 : decode cX5_gatherSources 4 = .ok (.iload_n 2, 1) := by decide +kernel
theorem dX5_gatherSources_5 : decode cX5_gatherSources 5 = .ok (.aload_n 0, 1) := by decide +kernel
theorem dX5_gatherSources_6 : decode cX5_gatherSources 6 = .ok (.getfield 15, 3) := by decide +kernel
theorem dX5_gatherSources_9 : decode cX5_gatherSources 9 = .ok (.if_icmp .ge 84, 3) := by decide +kernel
theorem dX5_gatherSources_12 : decode cX5_gatherSources 12 = .ok (.aload_n 0, 1) := by decide +kernel
theorem dX5_gatherSources_13 : decode cX5_gatherSources 13 = .ok (.getfield 19, 3) := by decide +kernel
theorem dX5_gatherSources_16 : decode cX5_gatherSources 16 = .ok (.iload_n 2, 1) := by decide +kernel
theorem dX5_gatherSources_17 : decode cX5_gatherSources 17 = .ok (.iload_n 1, 1) := by decide +kernel
theorem dX5_gatherSources_18 : decode cX5_gatherSources 18 = .ok (.iastore, 1) := by decide +kernel
theorem dX5_gatherSources_19 : decode cX5_gatherSources 19 = .ok (.iconst 0, 1) := by decide +kernel
theorem dX5_gatherSources_20 : decode cX5_gatherSources 20 = .ok (.istore_n 3, 1) := by decide +kernel
theorem dX5_gatherSources_21 : decode cX5_gatherSources 21 = .ok (.iload_n 3, 1) := by decide +kernel
theorem dX5_gatherSources_22 : decode cX5_gatherSources 22 = .ok (.aload_n 0, 1) := by decide +kernel
theorem dX5_gatherSources_23 : decode cX5_gatherSources 23 = .ok (.getfield 15, 3) := by decide +kernel
theorem dX5_gatherSources_26 : decode cX5_gatherSources 26 = .ok (.if_icmp .ge 61, 3) := by decide +kernel
theorem dX5_gatherSources_29 : decode cX5_gatherSources 29 = .ok (.aload_n 0, 1) := by decide +kernel
theorem dX5_gatherSources_30 : decode cX5_gatherSources 30 = .ok (.getfield 52, 3) := by decide +kernel
theorem dX5_gatherSources_33 : decode cX5_gatherSources 33 = .ok (.aload_n 0, 1) := by decide +kernel
theorem dX5_gatherSources_34 : decode cX5_gatherSources 34 = .ok (.getfield 9, 3) := by decide +kernel
theorem dX5_gatherSources_37 : decode cX5_gatherSources 37 = .ok (.iload_n 3, 1) := by decide +kernel
theorem dX5_gatherSources_38 : decode cX5_gatherSources 38 = .ok (.iaload, 1) := by decide +kernel
theorem dX5_gatherSources_39 : decode cX5_gatherSources 39 = .ok (.aload_n 0, 1) := by decide +kernel
theorem dX5_gatherSources_40 : decode cX5_gatherSources 40 = .ok (.getfield 9, 3) := by decide +kernel
theorem dX5_gatherSources_43 : decode cX5_gatherSources 43 = .ok (.iload_n 2, 1) := by decide +kernel
theorem dX5_gatherSources_44 : decode cX5_gatherSources 44 = .ok (.iaload, 1) := by decide +kernel
theorem dX5_gatherSources_45 : decode cX5_gatherSources 45 = .ok (.invokevirtual 84, 3) := by decide +kernel
theorem dX5_gatherSources_48 : decode cX5_gatherSources 48 = .ok (.istore 4, 2) := by decide +kernel
theorem dX5_gatherSources_50 : decode cX5_gatherSources 50 = .ok (.iload 4, 2) := by decide +kernel
theorem dX5_gatherSources_52 : decode cX5_gatherSources 52 = .ok (.ifCond .le 29, 3) := by decide +kernel
theorem dX5_gatherSources_55 : decode cX5_gatherSources 55 = .ok (.iload_n 1, 1) := by decide +kernel
theorem dX5_gatherSources_56 : decode cX5_gatherSources 56 = .ok (.bipush 16, 2) := by decide +kernel
theorem dX5_gatherSources_58 : decode cX5_gatherSources 58 = .ok (.if_icmp .ge 23, 3) := by decide +kernel
theorem dX5_gatherSources_61 : decode cX5_gatherSources 61 = .ok (.aload_n 0, 1) := by decide +kernel
theorem dX5_gatherSources_62 : decode cX5_gatherSources 62 = .ok (.getfield 22, 3) := by decide +kernel
theorem dX5_gatherSources_65 : decode cX5_gatherSources 65 = .ok (.iload_n 1, 1) := by decide +kernel
theorem dX5_gatherSources_66 : decode cX5_gatherSources 66 = .ok (.iconst 1, 1) := by decide +kernel
theorem dX5_gatherSources_67 : decode cX5_gatherSources 67 = .ok (.iload_n 3, 1) := by decide +kernel
theorem dX5_gatherSources_68 : decode cX5_gatherSources 68 = .ok (.ishl, 1) := by decide +kernel
theorem dX5_gatherSources_69 : decode cX5_gatherSources 69 = .ok (.iastore, 1) := by decide +kernel
theorem dX5_gatherSources_70 : decode cX5_gatherSources 70 = .ok (.aload_n 0, 1) := by decide +kernel
theorem dX5_gatherSources_71 : decode cX5_gatherSources 71 = .ok (.getfield 25, 3) := by decide +kernel
theorem dX5_gatherSources_74 : decode cX5_gatherSources 74 = .ok (.iload_n 1, 1) := by decide +kernel
theorem dX5_gatherSources_75 : decode cX5_gatherSources 75 = .ok (.iload 4, 2) := by decide +kernel
theorem dX5_gatherSources_77 : decode cX5_gatherSources 77 = .ok (.iastore, 1) := by decide +kernel
theorem dX5_gatherSources_78 : decode cX5_gatherSources 78 = .ok (.iinc 1 1, 3) := by decide +kernel
theorem dX5_gatherSources_81 : decode cX5_gatherSources 81 = .ok (.iinc 3 1, 3) := by decide +kernel
theorem dX5_gatherSources_84 : decode cX5_gatherSources 84 = .ok (.goto (-63), 3) := by decide +kernel
theorem dX5_gatherSources_87 : decode cX5_gatherSources 87 = .ok (.iinc 2 1, 3) := by decide +kernel
theorem dX5_gatherSources_90 : decode cX5_gatherSources 90 = .ok (.goto (-86), 3) := by decide +kernel
theorem dX5_gatherSources_93 : decode cX5_gatherSources 93 = .ok (.aload_n 0, 1) := by decide +kernel
theorem dX5_gatherSources_94 : decode cX5_gatherSources 94 = .ok (.getfield 19, 3) := by decide +kernel
theorem dX5_gatherSources_97 : decode cX5_gatherSources 97 = .ok (.aload_n 0, 1) := by decide +kernel
theorem dX5_gatherSources_98 : decode cX5_gatherSources 98 = .ok (.getfield 15, 3) := by decide +kernel
theorem dX5_gatherSources_101 : decode cX5_gatherSources 101 = .ok (.iload_n 1, 1) := by decide +kernel
theorem dX5_gatherSources_102 : decode cX5_gatherSources 102 = .ok (.iastore, 1) := by decide +kernel
theorem dX5_gatherSources_103 : decode cX5_gatherSources 103 = .ok (.return_, 1) := by decide +kernel
theorem dX5_weighSets_0 : decode cX5_weighSets 0 = .ok (.aload_n 0, 1) := by decide +kernel
theorem dX5_weighSets_1 : decode cX5_weighSets 1 = .ok (.getfield 28, 3) := by decide +kernel
theorem dX5_weighSets_4 : decode cX5_weighSets 4 = .ok (.iconst 0, 1) := by decide +kernel
theorem dX5_weighSets_5 : decode cX5_weighSets 5 = .ok (.iconst 0, 1) := by decide +kernel
theorem dX5_weighSets_6 : decode cX5_weighSets 6 = .ok (.iastore, 1) := by decide +kernel
theorem dX5_weighSets_7 : decode cX5_weighSets 7 = .ok (.iconst 1, 1) := by decide +kernel
theorem dX5_weighSets_8 : decode cX5_weighSets 8 = .ok (.istore_n 1, 1) := by decide +kernel
theorem dX5_weighSets_9 : decode cX5_weighSets 9 = .ok (.iload_n 1, 1) := by decide +kernel
theorem dX5_weighSets_10 : decode cX5_weighSets 10 = .ok (.iconst 1, 1) := by decide +kernel
theorem dX5_weighSets_11 : decode cX5_weighSets 11 = .ok (.aload_n 0, 1) := by decide +kernel
theorem dX5_weighSets_12 : decode cX5_weighSets 12 = .ok (.getfield 15, 3) := by decide +kernel
theorem dX5_weighSets_15 : decode cX5_weighSets 15 = .ok (.ishl, 1) := by decide +kernel
theorem dX5_weighSets_16 : decode cX5_weighSets 16 = .ok (.if_icmp .ge 61, 3) := by decide +kernel
theorem dX5_weighSets_19 : decode cX5_weighSets 19 = .ok (.ldc 90, 2) := by decide +kernel
theorem dX5_weighSets_21 : decode cX5_weighSets 21 = .ok (.istore_n 2, 1) := by decide +kernel
theorem dX5_weighSets_22 : decode cX5_weighSets 22 = .ok (.iconst 0, 1) := by decide +kernel
theorem dX5_weighSets_23 : decode cX5_weighSets 23 = .ok (.istore_n 3, 1) := by decide +kernel
theorem dX5_weighSets_24 : decode cX5_weighSets 24 = .ok (.iload_n 3, 1) := by decide +kernel
theorem dX5_weighSets_25 : decode cX5_weighSets 25 = .ok (.aload_n 0, 1) := by decide +kernel
theorem dX5_weighSets_26 : decode cX5_weighSets 26 = .ok (.getfield 15, 3) := by decide +kernel
theorem dX5_weighSets_29 : decode cX5_weighSets 29 = .ok (.if_icmp .ge 35, 3) := by decide +kernel
theorem dX5_weighSets_32 : decode cX5_weighSets 32 = .ok (.iconst 1, 1) := by decide +kernel
theorem dX5_weighSets_33 : decode cX5_weighSets 33 = .ok (.iload_n 3, 1) := by decide +kernel
theorem dX5_weighSets_34 : decode cX5_weighSets 34 = .ok (.ishl, 1) := by decide +kernel
theorem dX5_weighSets_35 : decode cX5_weighSets 35 = .ok (.istore 4, 2) := by decide +kernel
theorem dX5_weighSets_37 : decode cX5_weighSets 37 = .ok (.iload_n 1, 1) := by decide +kernel
theorem dX5_weighSets_38 : decode cX5_weighSets 38 = .ok (.iload 4, 2) := by decide +kernel
theorem dX5_weighSets_40 : decode cX5_weighSets 40 = .ok (.iand, 1) := by decide +kernel
theorem dX5_weighSets_41 : decode cX5_weighSets 41 = .ok (.ifCond .eq 17, 3) := by decide +kernel
theorem dX5_weighSets_44 : decode cX5_weighSets 44 = .ok (.iload_n 2, 1) := by decide +kernel
theorem dX5_weighSets_45 : decode cX5_weighSets 45 = .ok (.aload_n 0, 1) := by decide +kernel
theorem dX5_weighSets_46 : decode cX5_weighSets 46 = .ok (.iload_n 3, 1) := by decide +kernel
theorem dX5_weighSets_47 : decode cX5_weighSets 47 = .ok (.iload_n 1, 1) := by decide +kernel
theorem dX5_weighSets_48 : decode cX5_weighSets 48 = .ok (.iload 4, 2) := by decide +kernel
theorem dX5_weighSets_50 : decode cX5_weighSets 50 = .ok (.ixor, 1) := by decide +kernel
theorem dX5_weighSets_51 : decode cX5_weighSets 51 = .ok (.invokevirtual 91, 3) := by decide +kernel
theorem dX5_weighSets_54 : decode cX5_weighSets 54 = .ok (.invokestatic 94, 3) := by decide +kernel
theorem dX5_weighSets_57 : decode cX5_weighSets 57 = .ok (.istore_n 2, 1) := by decide +kernel
theorem dX5_weighSets_58 : decode cX5_weighSets 58 = .ok (.iinc 3 1, 3) := by decide +kernel
theorem dX5_weighSets_61 : decode cX5_weighSets 61 = .ok (.goto (-37), 3) := by decide +kernel
theorem dX5_weighSets_64 : decode cX5_weighSets 64 = .ok (.aload_n 0, 1) := by decide +kernel
theorem dX5_weighSets_65 : decode cX5_weighSets 65 = .ok (.getfield 28, 3) := by decide +kernel
theorem dX5_weighSets_68 : decode cX5_weighSets 68 = .ok (.iload_n 1, 1) := by decide +kernel
theorem dX5_weighSets_69 : decode cX5_weighSets 69 = .ok (.iload_n 2, 1) := by decide +kernel
theorem dX5_weighSets_70 : decode cX5_weighSets 70 = .ok (.iastore, 1) := by decide +kernel
theorem dX5_weighSets_71 : decode cX5_weighSets 71 = .ok (.iinc 1 1, 3) := by decide +kernel
theorem dX5_weighSets_74 : decode cX5_weighSets 74 = .ok (.goto (-65), 3) := by decide +kernel
theorem dX5_weighSets_77 : decode cX5_weighSets 77 = .ok (.return_, 1) := by decide +kernel
theorem dX5_sumWithFirst_0 : decode cX5_sumWithFirst 0 = .ok (.aload_n 0, 1) := by decide +kernel
theorem dX5_sumWithFirst_1 : decode cX5_sumWithFirst 1 = .ok (.getfield 28, 3) := by decide +kernel
theorem dX5_sumWithFirst_4 : decode cX5_sumWithFirst 4 = .ok (.iload_n 2, 1) := by decide +kernel
theorem dX5_sumWithFirst_5 : decode cX5_sumWithFirst 5 = .ok (.iaload, 1) := by decide +kernel
theorem dX5_sumWithFirst_6 : decode cX5_sumWithFirst 6 = .ok (.istore_n 3, 1) := by decide +kernel
theorem dX5_sumWithFirst_7 : decode cX5_sumWithFirst 7 = .ok (.aload_n 0, 1) := by decide +kernel
theorem dX5_sumWithFirst_8 : decode cX5_sumWithFirst 8 = .ok (.getfield 19, 3) := by decide +kernel
theorem dX5_sumWithFirst_11 : decode cX5_sumWithFirst 11 = .ok (.iload_n 1, 1) := by decide +kernel
theorem dX5_sumWithFirst_12 : decode cX5_sumWithFirst 12 = .ok (.iaload, 1) := by decide +kernel
theorem dX5_sumWithFirst_13 : decode cX5_sumWithFirst 13 = .ok (.istore 4, 2) := by decide +kernel
theorem dX5_sumWithFirst_15 : decode cX5_sumWithFirst 15 = .ok (.iload 4, 2) := by decide +kernel
theorem dX5_sumWithFirst_17 : decode cX5_sumWithFirst 17 = .ok (.aload_n 0, 1) := by decide +kernel
theorem dX5_sumWithFirst_18 : decode cX5_sumWithFirst 18 = .ok (.getfield 19, 3) := by decide +kernel
theorem dX5_sumWithFirst_21 : decode cX5_sumWithFirst 21 = .ok (.iload_n 1, 1) := by decide +kernel
theorem dX5_sumWithFirst_22 : decode cX5_sumWithFirst 22 = .ok (.iconst 1, 1) := by decide +kernel
theorem dX5_sumWithFirst_23 : decode cX5_sumWithFirst 23 = .ok (.iadd, 1) := by decide +kernel
theorem dX5_sumWithFirst_24 : decode cX5_sumWithFirst 24 = .ok (.iaload, 1) := by decide +kernel
theorem dX5_sumWithFirst_25 : decode cX5_sumWithFirst 25 = .ok (.if_icmp .ge 31, 3) := by decide +kernel
theorem dX5_sumWithFirst_28 : decode cX5_sumWithFirst 28 = .ok (.iload_n 2, 1) := by decide +kernel
theorem dX5_sumWithFirst_29 : decode cX5_sumWithFirst 29 = .ok (.aload_n 0, 1) := by decide +kernel
theorem dX5_sumWithFirst_30 : decode cX5_sumWithFirst 30 = .ok (.getfield 22, 3) := by decide +kernel
theorem dX5_sumWithFirst_33 : decode cX5_sumWithFirst 33 = .ok (.iload 4, 2) := by decide +kernel
theorem dX5_sumWithFirst_35 : decode cX5_sumWithFirst 35 = .ok (.iaload, 1) := by decide +kernel
theorem dX5_sumWithFirst_36 : decode cX5_sumWithFirst 36 = .ok (.iand, 1) := by decide +kernel
theorem dX5_sumWithFirst_37 : decode cX5_sumWithFirst 37 = .ok (.ifCond .eq 13, 3) := by decide +kernel
theorem dX5_sumWithFirst_40 : decode cX5_sumWithFirst 40 = .ok (.iload_n 3, 1) := by decide +kernel
theorem dX5_sumWithFirst_41 : decode cX5_sumWithFirst 41 = .ok (.aload_n 0, 1) := by decide +kernel
theorem dX5_sumWithFirst_42 : decode cX5_sumWithFirst 42 = .ok (.getfield 25, 3) := by decide +kernel
theorem dX5_sumWithFirst_45 : decode cX5_sumWithFirst 45 = .ok (.iload 4, 2) := by decide +kernel
theorem dX5_sumWithFirst_47 : decode cX5_sumWithFirst 47 = .ok (.iaload, 1) := by decide +kernel
theorem dX5_sumWithFirst_48 : decode cX5_sumWithFirst 48 = .ok (.iadd, 1) := by decide +kernel
theorem dX5_sumWithFirst_49 : decode cX5_sumWithFirst 49 = .ok (.istore_n 3, 1) := by decide +kernel
