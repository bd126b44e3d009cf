theorem dX3_init_0 : decode cX3_init 0 = .ok (.aload_n 0, 1) := by decide +kernel
theorem dX3_init_1 : decode cX3_init 1 = .ok (.invokespecial 3, 3) := by decide +kernel
theorem dX3_init_4 : decode cX3_init 4 = .ok (.aload_n 0, 1) := by decide +kernel
theorem dX3_init_5 : decode cX3_init 5 = .ok (.sipush 240, 3) := by decide +kernel
theorem dX3_init_8 : decode cX3_init 8 = .ok (.newarray .char, 2) := by decide +kernel
theorem dX3_init_10 : decode cX3_init 10 = .ok (.putfield 9, 3) := by decide +kernel
theorem dX3_init_13 : decode cX3_init 13 = .ok (.aload_n 0, 1) := by decide +kernel
theorem dX3_init_14 : decode cX3_init 14 = .ok (.iconst 0, 1) := by decide +kernel
theorem dX3_init_15 : decode cX3_init 15 = .ok (.putfield 15, 3) := by decide +kernel
theorem dX3_init_18 : decode cX3_init 18 = .ok (.aload_n 0, 1) := by decide +kernel
theorem dX3_init_19 : decode cX3_init 19 = .ok (.iconst 0, 1) := by decide +kernel
theorem dX3_init_20 : decode cX3_init 20 = .ok (.putfield 19, 3) := by decide +kernel
theorem dX3_init_23 : decode cX3_init 23 = .ok (.aload_n 0, 1) := by decide +kernel
theorem dX3_init_24 : decode cX3_init 24 = .ok (.iconst 0, 1) := by decide +kernel
theorem dX3_init_25 : decode cX3_init 25 = .ok (.putfield 22, 3) := by decide +kernel
theorem dX3_init_28 : decode cX3_init 28 = .ok (.aload_n 0, 1) := by decide +kernel
theorem dX3_init_29 : decode cX3_init 29 = .ok (.iconst (-1), 1) := by decide +kernel
theorem dX3_init_30 : decode cX3_init 30 = .ok (.putfield 25, 3) := by decide +kernel
theorem dX3_init_33 : decode cX3_init 33 = .ok (.return_, 1) := by decide +kernel
theorem dX3_append_0 : decode cX3_append 0 = .ok (.aload_n 0, 1) := by decide +kernel
theorem dX3_append_1 : decode cX3_append 1 = .ok (.getfield 15, 3) := by decide +kernel
theorem dX3_append_4 : decode cX3_append 4 = .ok (.sipush 240, 3) := by decide +kernel
theorem dX3_append_7 : decode cX3_append 7 = .ok (.if_icmp .lt 5, 3) := by decide +kernel
theorem dX3_append_10 : decode cX3_append 10 = .ok (.iconst 0, 1) := by decide +kernel
theorem dX3_append_11 : decode cX3_append 11 = .ok (.ireturn, 1) := by decide +kernel
theorem dX3_append_12 : decode cX3_append 12 = .ok (.aload_n 0, 1) := by decide +kernel
theorem dX3_append_13 : decode cX3_append 13 = .ok (.getfield 9, 3) := by decide +kernel
theorem dX3_append_16 : decode cX3_append 16 = .ok (.aload_n 0, 1) := by decide +kernel
theorem dX3_append_17 : decode cX3_append 17 = .ok (.getfield 15, 3) := by decide +kernel
theorem dX3_append_20 : decode cX3_append 20 = .ok (.iload_n 1, 1) := by decide +kernel
theorem dX3_append_21 : decode cX3_append 21 = .ok (.i2c, 1) := by decide +kernel
theorem dX3_append_22 : decode cX3_append 22 = .ok (.castore, 1) := by decide +kernel
theorem dX3_append_23 : decode cX3_append 23 = .ok (.aload_n 0, 1) := by decide +kernel
theorem dX3_append_24 : decode cX3_append 24 = .ok (.dup, 1) := by decide +kernel
theorem dX3_append_25 : decode cX3_append 25 = .ok (.getfield 15, 3) := by decide +kernel
theorem dX3_append_28 : decode cX3_append 28 = .ok (.iconst 1, 1) := by decide +kernel
theorem dX3_append_29 : decode cX3_append 29 = .ok (.iadd, 1) := by decide +kernel
theorem dX3_append_30 : decode cX3_append 30 = .ok (.putfield 15, 3) := by decide +kernel
theorem dX3_append_33 : decode cX3_append 33 = .ok (.iconst 1, 1) := by decide +kernel
theorem dX3_append_34 : decode cX3_append 34 = .ok (.ireturn, 1) := by decide +kernel
theorem dX3_read_0 : decode cX3_read 0 = .ok (.aload_n 1, 1) := by decide +kernel
theorem dX3_read_1 : decode cX3_read 1 = .ok (.invokevirtual 28, 3) := by decide +kernel
theorem dX3_read_4 : decode cX3_read 4 = .ok (.aload_n 0, 1) := by decide +kernel
theorem dX3_read_5 : decode cX3_read 5 = .ok (.iconst 0, 1) := by decide +kernel
theorem dX3_read_6 : decode cX3_read 6 = .ok (.putfield 19, 3) := by decide +kernel
theorem dX3_read_9 : decode cX3_read 9 = .ok (.aload_n 0, 1) := by decide +kernel
theorem dX3_read_10 : decode cX3_read 10 = .ok (.iconst 0, 1) := by decide +kernel
theorem dX3_read_11 : decode cX3_read 11 = .ok (.putfield 22, 3) := by decide +kernel
theorem dX3_read_14 : decode cX3_read 14 = .ok (.aload_n 0, 1) := by decide +kernel
theorem dX3_read_15 : decode cX3_read 15 = .ok (.iconst (-1), 1) := by decide +kernel
theorem dX3_read_16 : decode cX3_read 16 = .ok (.putfield 25, 3) := by decide +kernel
theorem dX3_read_19 : decode cX3_read 19 = .ok (.aload_n 0, 1) := by decide +kernel
theorem dX3_read_20 : decode cX3_read 20 = .ok (.invokevirtual 33, 3) := by decide +kernel
theorem dX3_read_23 : decode cX3_read 23 = .ok (.iconst 0, 1) := by decide +kernel
theorem dX3_read_24 : decode cX3_read 24 = .ok (.istore_n 2, 1) := by decide +kernel
theorem dX3_read_25 : decode cX3_read 25 = .ok (.iload_n 2, 1) := by decide +kernel
theorem dX3_read_26 : decode cX3_read 26 = .ok (.sipush 240, 3) := by decide +kernel
theorem dX3_read_29 : decode cX3_read 29 = .ok (.if_icmp .ge 36, 3) := by decide +kernel
theorem dX3_read_32 : decode cX3_read 32 = .ok (.aload_n 0, 1) := by decide +kernel
theorem dX3_read_33 : decode cX3_read 33 = .ok (.getfield 19, 3) := by decide +kernel
theorem dX3_read_36 : decode cX3_read 36 = .ok (.aload_n 0, 1) := by decide +kernel
theorem dX3_read_37 : decode cX3_read 37 = .ok (.getfield 15, 3) := by decide +kernel
theorem dX3_read_40 : decode cX3_read 40 = .ok (.if_icmp .ge 25, 3) := by decide +kernel
theorem dX3_read_43 : decode cX3_read 43 = .ok (.aload_n 0, 1) := by decide +kernel
theorem dX3_read_44 : decode cX3_read 44 = .ok (.getfield 22, 3) := by decide +kernel
theorem dX3_read_47 : decode cX3_read 47 = .ok (.ifCond .ne 18, 3) := by decide +kernel
theorem dX3_read_50 : decode cX3_read 50 = .ok (.aload_n 0, 1) := by decide +kernel
theorem dX3_read_51 : decode cX3_read 51 = .ok (.aload_n 1, 1) := by decide +kernel
theorem dX3_read_52 : decode cX3_read 52 = .ok (.invokevirtual 36, 3) := by decide +kernel
theorem dX3_read_55 : decode cX3_read 55 = .ok (.aload_n 0, 1) := by decide +kernel
theorem dX3_read_56 : decode cX3_read 56 = .ok (.invokevirtual 33, 3) := by decide +kernel
theorem dX3_read_59 : decode cX3_read 59 = .ok (.iinc 2 1, 3) := by decide +kernel
theorem dX3_read_62 : decode cX3_read 62 = .ok (.goto (-37), 3) := by decide +kernel
theorem dX3_read_65 : decode cX3_read 65 = .ok (.aload_n 0, 1) := by decide +kernel
theorem dX3_read_66 : decode cX3_read 66 = .ok (.getfield 22, 3) := by decide +kernel
theorem dX3_read_69 : decode cX3_read 69 = .ok (.ireturn, 1) := by decide +kernel
theorem dX3_readClause_0 : decode cX3_readClause 0 = .ok (.aload_n 0, 1) := by decide +kernel
theorem dX3_readClause_1 : decode cX3_readClause 1 = .ok (.bipush 118, 2) := by decide +kernel
theorem dX3_readClause_3 : decode cX3_readClause 3 = .ok (.invokevirtual 40, 3) := by decide +kernel
theorem dX3_readClause_6 : decode cX3_readClause 6 = .ok (.ifCond .eq 19, 3) := by decide +kernel
theorem dX3_readClause_9 : decode cX3_readClause 9 = .ok (.aload_n 0, 1) := by decide +kernel
theorem dX3_readClause_10 : decode cX3_readClause 10 = .ok (.aload_n 1, 1) := by decide +kernel
theorem dX3_readClause_11 : decode cX3_readClause 11 = .ok (.getfield 44, 3) := by decide +kernel
theorem dX3_readClause_14 : decode cX3_readClause 14 = .ok (.invokevirtual 48, 3) := by decide +kernel
theorem dX3_readClause_17 : decode cX3_readClause 17 = .ok (.aload_n 0, 1) := by decide +kernel
theorem dX3_readClause_18 : decode cX3_readClause 18 = .ok (.aload_n 1, 1) := by decide +kernel
theorem dX3_readClause_19 : decode cX3_readClause 19 = .ok (.invokevirtual 52, 3) := by decide +kernel
theorem dX3_readClause_22 : decode cX3_readClause 22 = .ok (.goto 86, 3) := by decide +kernel
theorem dX3_readClause_25 : decode cX3_readClause 25 = .ok (.aload_n 0, 1) := by decide +kernel
theorem dX3_readClause_26 : decode cX3_readClause 26 = .ok (.bipush 98, 2) := by decide +kernel
theorem dX3_readClause_28 : decode cX3_readClause 28 = .ok (.invokevirtual 40, 3) := by decide +kernel
theorem dX3_readClause_31 : decode cX3_readClause 31 = .ok (.ifCond .eq 26, 3) := by decide +kernel
theorem dX3_readClause_34 : decode cX3_readClause 34 = .ok (.aload_n 1, 1) := by decide +kernel
theorem dX3_readClause_35 : decode cX3_readClause 35 = .ok (.getfield 44, 3) := by decide +kernel
theorem dX3_readClause_38 : decode cX3_readClause 38 = .ok (.ifCond .eq 19, 3) := by decide +kernel
theorem dX3_readClause_41 : decode cX3_readClause 41 = .ok (.aload_n 0, 1) := by decide +kernel
theorem dX3_readClause_42 : decode cX3_readClause 42 = .ok (.aload_n 1, 1) := by decide +kernel
theorem dX3_readClause_43 : decode cX3_readClause 43 = .ok (.getfield 55, 3) := by decide +kernel
theorem dX3_readClause_46 : decode cX3_readClause 46 = .ok (.invokevirtual 48, 3) := by decide +kernel
theorem dX3_readClause_49 : decode cX3_readClause 49 = .ok (.aload_n 0, 1) := by decide +kernel
theorem dX3_readClause_50 : decode cX3_readClause 50 = .ok (.aload_n 1, 1) := by decide +kernel
theorem dX3_readClause_51 : decode cX3_readClause 51 = .ok (.invokevirtual 58, 3) := by decide +kernel
theorem dX3_readClause_54 : decode cX3_readClause 54 = .ok (.goto 54, 3) := by decide +kernel
theorem dX3_readClause_57 : decode cX3_readClause 57 = .ok (.aload_n 0, 1) := by decide +kernel
theorem dX3_readClause_58 : decode cX3_readClause 58 = .ok (.bipush 119, 2) := by decide +kernel
theorem dX3_readClause_60 : decode cX3_readClause 60 = .ok (.invokevirtual 40, 3) := by decide +kernel
theorem dX3_readClause_63 : decode cX3_readClause 63 = .ok (.ifCond .eq 36, 3) := by decide +kernel
theorem dX3_readClause_66 : decode cX3_readClause 66 = .ok (.aload_n 1, 1) := by decide +kernel
theorem dX3_readClause_67 : decode cX3_readClause 67 = .ok (.getfield 44, 3) := by decide +kernel
theorem dX3_readClause_70 : decode cX3_readClause 70 = .ok (.ifCond .eq 29, 3) := by decide +kernel
theorem dX3_readClause_73 : decode cX3_readClause 73 = .ok (.aload_n 0, 1) := by decide +kernel
theorem dX3_readClause_74 : decode cX3_readClause 74 = .ok (.aload_n 1, 1) := by decide +kernel
theorem dX3_readClause_75 : decode cX3_readClause 75 = .ok (.getfield 61, 3) := by decide +kernel
theorem dX3_readClause_78 : decode cX3_readClause 78 = .ok (.bipush 10, 2) := by decide +kernel
theorem dX3_readClause_80 : decode cX3_readClause 80 = .ok (.if_icmp .lt 7, 3) := by decide +kernel
theorem dX3_readClause_83 : decode cX3_readClause 83 = .ok (.iconst 1, 1) := by decide +kernel
theorem dX3_readClause_84 : decode cX3_readClause 84 = .ok (.goto 4, 3) := by decide +kernel
theorem dX3_readClause_87 : decode cX3_readClause 87 = .ok (.iconst 0, 1) := by decide +kernel
theorem dX3_readClause_88 : decode cX3_readClause 88 = .ok (.invokevirtual 48, 3) := by decide +kernel
theorem dX3_readClause_91 : decode cX3_readClause 91 = .ok (.aload_n 0, 1) := by decide +kernel
theorem dX3_readClause_92 : decode cX3_readClause 92 = .ok (.aload_n 1, 1) := by decide +kernel
theorem dX3_readClause_93 : decode cX3_readClause 93 = .ok (.invokevirtual 64, 3) := by decide +kernel
theorem dX3_readClause_96 : decode cX3_readClause 96 = .ok (.goto 12, 3) := by decide +kernel
theorem dX3_readClause_99 : decode cX3_readClause 99 = .ok (.aload_n 0, 1) := by decide +kernel
theorem dX3_readClause_100 : decode cX3_readClause 100 = .ok (.iconst 1, 1) := by decide +kernel
theorem dX3_readClause_101 : decode cX3_readClause 101 = .ok (.aload_n 0, 1) := by decide +kernel
theorem dX3_readClause_102 : decode cX3_readClause 102 = .ok (.getfield 19, 3) := by decide +kernel
theorem dX3_readClause_105 : decode cX3_readClause 105 = .ok (.invokevirtual 67, 3) := by decide +kernel
theorem dX3_readClause_108 : decode cX3_readClause 108 = .ok (.return_, 1) := by decide +kernel
theorem dX3_startClause_0 : decode cX3_startClause 0 = .ok (.iload_n 1, 1) := by decide +kernel
theorem dX3_startClause_1 : decode cX3_startClause 1 = .ok (.ifCond .eq 12, 3) := by decide +kernel
theorem dX3_startClause_4 : decode cX3_startClause 4 = .ok (.aload_n 0, 1) := by decide +kernel
theorem dX3_startClause_5 : decode cX3_startClause 5 = .ok (.iconst 3, 1) := by decide +kernel
theorem dX3_startClause_6 : decode cX3_startClause 6 = .ok (.aload_n 0, 1) := by decide +kernel
theorem dX3_startClause_7 : decode cX3_startClause 7 = .ok (.getfield 19, 3) := by decide +kernel
theorem dX3_startClause_10 : decode cX3_startClause 10 = .ok (.invokevirtual 67, 3) := by decide +kernel
theorem dX3_startClause_13 : decode cX3_startClause 13 = .ok (.aload_n 0, 1) := by decide +kernel
theorem dX3_startClause_14 : decode cX3_startClause 14 = .ok (.dup, 1) := by decide +kernel
theorem dX3_startClause_15 : decode cX3_startClause 15 = .ok (.getfield 19, 3) := by decide +kernel
theorem dX3_startClause_18 : decode cX3_startClause 18 = .ok (.iconst 1, 1) := by decide +kernel
theorem dX3_startClause_19 : decode cX3_startClause 19 = .ok (.iadd, 1) := by decide +kernel
theorem dX3_startClause_20 : decode cX3_startClause 20 = .ok (.putfield 19, 3) := by decide +kernel
theorem dX3_startClause_23 : decode cX3_startClause 23 = .ok (.return_, 1) := by decide +kernel
theorem dX3_readValues_0 : decode cX3_readValues 0 = .ok (.aload_n 1, 1) := by decide +kernel
theorem dX3_readValues_1 : decode cX3_readValues 1 = .ok (.iconst 1, 1) := by decide +kernel
theorem dX3_readValues_2 : decode cX3_readValues 2 = .ok (.putfield 44, 3) := by decide +kernel
theorem dX3_readValues_5 : decode cX3_readValues 5 = .ok (.iconst 0, 1) := by decide +kernel
theorem dX3_readValues_6 : decode cX3_readValues 6 = .ok (.istore_n 2, 1) := by decide +kernel
theorem dX3_readValues_7 : decode cX3_readValues 7 = .ok (.iload_n 2, 1) := by decide +kernel
theorem dX3_readValues_8 : decode cX3_readValues 8 = .ok (.bipush 8, 2) := by decide +kernel
theorem dX3_readValues_10 : decode cX3_readValues 10 = .ok (.if_icmp .ge 50, 3) := by decide +kernel
theorem dX3_readValues_13 : decode cX3_readValues 13 = .ok (.aload_n 0, 1) := by decide +kernel
theorem dX3_readValues_14 : decode cX3_readValues 14 = .ok (.getfield 22, 3) := by decide +kernel
theorem dX3_readValues_17 : decode cX3_readValues 17 = .ok (.ifCond .ne 43, 3) := by decide +kernel
theorem dX3_readValues_20 : decode cX3_readValues 20 = .ok (.aload_n 1, 1) := by decide +kernel
theorem dX3_readValues_21 : decode cX3_readValues 21 = .ok (.getfield 71, 3) := by decide +kernel
theorem dX3_readValues_24 : decode cX3_readValues 24 = .ok (.iload_n 2, 1) := by decide +kernel
theorem dX3_readValues_25 : decode cX3_readValues 25 = .ok (.aload_n 0, 1) := by decide +kernel
theorem dX3_readValues_26 : decode cX3_readValues 26 = .ok (.iconst 1, 1) := by decide +kernel
theorem dX3_readValues_27 : decode cX3_readValues 27 = .ok (.bipush 9, 2) := by decide +kernel
theorem dX3_readValues_29 : decode cX3_readValues 29 = .ok (.invokevirtual 75, 3) := by decide +kernel
theorem dX3_readValues_32 : decode cX3_readValues 32 = .ok (.iastore, 1) := by decide +kernel
theorem dX3_readValues_33 : decode cX3_readValues 33 = .ok (.aload_n 0, 1) := by decide +kernel
theorem dX3_readValues_34 : decode cX3_readValues 34 = .ok (.invokevirtual 33, 3) := by decide +kernel
theorem dX3_readValues_37 : decode cX3_readValues 37 = .ok (.aload_n 0, 1) := by decide +kernel
theorem dX3_readValues_38 : decode cX3_readValues 38 = .ok (.iload_n 2, 1) := by decide +kernel
theorem dX3_readValues_39 : decode cX3_readValues 39 = .ok (.bipush 7, 2) := by decide +kernel
theorem dX3_readValues_41 : decode cX3_readValues 41 = .ok (.if_icmp .ge 8, 3) := by decide +kernel
theorem dX3_readValues_44 : decode cX3_readValues 44 = .ok (.bipush 44, 2) := by decide +kernel
theorem dX3_readValues_46 : decode cX3_readValues 46 = .ok (.goto 5, 3) := by decide +kernel
theorem dX3_readValues_49 : decode cX3_readValues 49 = .ok (.bipush 59, 2) := by decide +kernel
theorem dX3_readValues_51 : decode cX3_readValues 51 = .ok (.invokevirtual 79, 3) := by decide +kernel
theorem dX3_readValues_54 : decode cX3_readValues 54 = .ok (.iinc 2 1, 3) := by decide +kernel
theorem dX3_readValues_57 : decode cX3_readValues 57 = .ok (.goto (-50), 3) := by decide +kernel
theorem dX3_readValues_60 : decode cX3_readValues 60 = .ok (.return_, 1) := by decide +kernel
theorem dX3_readBag_0 : decode cX3_readBag 0 = .ok (.aload_n 1, 1) := by decide +kernel
theorem dX3_readBag_1 : decode cX3_readBag 1 = .ok (.iconst 1, 1) := by decide +kernel
theorem dX3_readBag_2 : decode cX3_readBag 2 = .ok (.putfield 55, 3) := by decide +kernel
theorem dX3_readBag_5 : decode cX3_readBag 5 = .ok (.iconst 0, 1) := by decide +kernel
theorem dX3_readBag_6 : decode cX3_readBag 6 = .ok (.istore_n 2, 1) := by decide +kernel
theorem dX3_readBag_7 : decode cX3_readBag 7 = .ok (.iload_n 2, 1) := by decide +kernel
theorem dX3_readBag_8 : decode cX3_readBag 8 = .ok (.bipush 40, 2) := by decide +kernel
theorem dX3_readBag_10 : decode cX3_readBag 10 = .ok (.if_icmp .gt 71, 3) := by decide +kernel
theorem dX3_readBag_13 : decode cX3_readBag 13 = .ok (.aload_n 0, 1) := by decide +kernel
theorem dX3_readBag_14 : decode cX3_readBag 14 = .ok (.getfield 22, 3) := by decide +kernel
theorem dX3_readBag_17 : decode cX3_readBag 17 = .ok (.ifCond .ne 64, 3) := by decide +kernel
theorem dX3_readBag_20 : decode cX3_readBag 20 = .ok (.aload_n 0, 1) := by decide +kernel
theorem dX3_readBag_21 : decode cX3_readBag 21 = .ok (.invokevirtual 33, 3) := by decide +kernel
theorem dX3_readBag_24 : decode cX3_readBag 24 = .ok (.aload_n 0, 1) := by decide +kernel
theorem dX3_readBag_25 : decode cX3_readBag 25 = .ok (.invokevirtual 83, 3) := by decide +kernel
theorem dX3_readBag_28 : decode cX3_readBag 28 = .ok (.istore_n 3, 1) := by decide +kernel
theorem dX3_readBag_29 : decode cX3_readBag 29 = .ok (.iload_n 3, 1) := by decide +kernel
theorem dX3_readBag_30 : decode cX3_readBag 30 = .ok (.iconst (-1), 1) := by decide +kernel
theorem dX3_readBag_31 : decode cX3_readBag 31 = .ok (.if_icmp .ne 9, 3) := by decide +kernel
theorem dX3_readBag_34 : decode cX3_readBag 34 = .ok (.aload_n 0, 1) := by decide +kernel
theorem dX3_readBag_35 : decode cX3_readBag 35 = .ok (.iload_n 2, 1) := by decide +kernel
theorem dX3_readBag_36 : decode cX3_readBag 36 = .ok (.invokevirtual 87, 3) := by decide +kernel
theorem dX3_readBag_39 : decode cX3_readBag 39 = .ok (.return_, 1) := by decide +kernel
theorem dX3_readBag_40 : decode cX3_readBag 40 = .ok (.iload_n 2, 1) := by decide +kernel
theorem dX3_readBag_41 : decode cX3_readBag 41 = .ok (.bipush 40, 2) := by decide +kernel
theorem dX3_readBag_43 : decode cX3_readBag 43 = .ok (.if_icmp .ne 12, 3) := by decide +kernel
theorem dX3_readBag_46 : decode cX3_readBag 46 = .ok (.aload_n 0, 1) := by decide +kernel
theorem dX3_readBag_47 : decode cX3_readBag 47 = .ok (.iconst 2, 1) := by decide +kernel
theorem dX3_readBag_48 : decode cX3_readBag 48 = .ok (.aload_n 0, 1) := by decide +kernel
theorem dX3_readBag_49 : decode cX3_readBag 49 = .ok (.getfield 19, 3) := by decide +kernel
theorem dX3_readBag_52 : decode cX3_readBag 52 = .ok (.invokevirtual 67, 3) := by decide +kernel
theorem dX3_readBag_55 : decode cX3_readBag 55 = .ok (.aload_n 1, 1) := by decide +kernel
theorem dX3_readBag_56 : decode cX3_readBag 56 = .ok (.getfield 91, 3) := by decide +kernel
theorem dX3_readBag_59 : decode cX3_readBag 59 = .ok (.iload_n 3, 1) := by decide +kernel
theorem dX3_readBag_60 : decode cX3_readBag 60 = .ok (.dup2, 1) := by decide +kernel
theorem dX3_readBag_61 : decode cX3_readBag 61 = .ok (.iaload, 1) := by decide +kernel
theorem dX3_readBag_62 : decode cX3_readBag 62 = .ok (.iconst 1, 1) := by decide +kernel
theorem dX3_readBag_63 : decode cX3_readBag 63 = .ok (.iadd, 1) := by decide +kernel
theorem dX3_readBag_64 : decode cX3_readBag 64 = .ok (.iastore, 1) := by decide +kernel
theorem dX3_readBag_65 : decode cX3_readBag 65 = .ok (.aload_n 0, 1) := by decide +kernel
theorem dX3_readBag_66 : decode cX3_readBag 66 = .ok (.dup, 1) := by decide +kernel
theorem dX3_readBag_67 : decode cX3_readBag 67 = .ok (.getfield 19, 3) := by decide +kernel
theorem dX3_readBag_70 : decode cX3_readBag 70 = .ok (.iconst 1, 1) := by decide +kernel
theorem dX3_readBag_71 : decode cX3_readBag 71 = .ok (.iadd, 1) := by decide +kernel
theorem dX3_readBag_72 : decode cX3_readBag 72 = .ok (.putfield 19, 3) := by decide +kernel
theorem dX3_readBag_75 : decode cX3_readBag 75 = .ok (.iinc 2 1, 3) := by decide +kernel
theorem dX3_readBag_78 : decode cX3_readBag 78 = .ok (.goto (-71), 3) := by decide +kernel
theorem dX3_readBag_81 : decode cX3_readBag 81 = .ok (.return_, 1) := by decide +kernel
theorem dX3_readWord_0 : decode cX3_readWord 0 = .ok (.aload_n 0, 1) := by decide +kernel
theorem dX3_readWord_1 : decode cX3_readWord 1 = .ok (.iconst 0, 1) := by decide +kernel
theorem dX3_readWord_2 : decode cX3_readWord 2 = .ok (.iconst 3, 1) := by decide +kernel
theorem dX3_readWord_3 : decode cX3_readWord 3 = .ok (.invokevirtual 75, 3) := by decide +kernel
theorem dX3_readWord_6 : decode cX3_readWord 6 = .ok (.istore_n 2, 1) := by decide +kernel
theorem dX3_readWord_7 : decode cX3_readWord 7 = .ok (.iconst 0, 1) := by decide +kernel
theorem dX3_readWord_8 : decode cX3_readWord 8 = .ok (.istore_n 3, 1) := by decide +kernel
theorem dX3_readWord_9 : decode cX3_readWord 9 = .ok (.iload_n 3, 1) := by decide +kernel
theorem dX3_readWord_10 : decode cX3_readWord 10 = .ok (.bipush 6, 2) := by decide +kernel
theorem dX3_readWord_12 : decode cX3_readWord 12 = .ok (.if_icmp .gt 82, 3) := by decide +kernel
theorem dX3_readWord_15 : decode cX3_readWord 15 = .ok (.aload_n 0, 1) := by decide +kernel
theorem dX3_readWord_16 : decode cX3_readWord 16 = .ok (.getfield 22, 3) := by decide +kernel
theorem dX3_readWord_19 : decode cX3_readWord 19 = .ok (.ifCond .ne 75, 3) := by decide +kernel
theorem dX3_readWord_22 : decode cX3_readWord 22 = .ok (.aload_n 0, 1) := by decide +kernel
theorem dX3_readWord_23 : decode cX3_readWord 23 = .ok (.invokevirtual 33, 3) := by decide +kernel
theorem dX3_readWord_26 : decode cX3_readWord 26 = .ok (.aload_n 0, 1) := by decide +kernel
theorem dX3_readWord_27 : decode cX3_readWord 27 = .ok (.invokevirtual 83, 3) := by decide +kernel
theorem dX3_readWord_30 : decode cX3_readWord 30 = .ok (.istore 4, 2) := by decide +kernel
theorem dX3_readWord_32 : decode cX3_readWord 32 = .ok (.iload 4, 2) := by decide +kernel
theorem dX3_readWord_34 : decode cX3_readWord 34 = .ok (.iconst (-1), 1) := by decide +kernel
theorem dX3_readWord_35 : decode cX3_readWord 35 = .ok (.if_icmp .eq 10, 3) := by decide +kernel
theorem dX3_readWord_38 : decode cX3_readWord 38 = .ok (.iload 4, 2) := by decide +kernel
theorem dX3_readWord_40 : decode cX3_readWord 40 = .ok (.bipush 8, 2) := by decide +kernel
theorem dX3_readWord_42 : decode cX3_readWord 42 = .ok (.if_icmp .ne 11, 3) := by decide +kernel
theorem dX3_readWord_45 : decode cX3_readWord 45 = .ok (.aload_n 0, 1) := by decide +kernel
theorem dX3_readWord_46 : decode cX3_readWord 46 = .ok (.aload_n 1, 1) := by decide +kernel
theorem dX3_readWord_47 : decode cX3_readWord 47 = .ok (.iload_n 2, 1) := by decide +kernel
theorem dX3_readWord_48 : decode cX3_readWord 48 = .ok (.iload_n 3, 1) := by decide +kernel
theorem dX3_readWord_49 : decode cX3_readWord 49 = .ok (.invokevirtual 94, 3) := by decide +kernel
theorem dX3_readWord_52 : decode cX3_readWord 52 = .ok (.return_, 1) := by decide +kernel
theorem dX3_readWord_53 : decode cX3_readWord 53 = .ok (.iload_n 3, 1) := by decide +kernel
theorem dX3_readWord_54 : decode cX3_readWord 54 = .ok (.bipush 6, 2) := by decide +kernel
theorem dX3_readWord_56 : decode cX3_readWord 56 = .ok (.if_icmp .ne 15, 3) := by decide +kernel
theorem dX3_readWord_59 : decode cX3_readWord 59 = .ok (.aload_n 0, 1) := by decide +kernel
theorem dX3_readWord_60 : decode cX3_readWord 60 = .ok (.iconst 2, 1) := by decide +kernel
theorem dX3_readWord_61 : decode cX3_readWord 61 = .ok (.aload_n 0, 1) := by decide +kernel
theorem dX3_readWord_62 : decode cX3_readWord 62 = .ok (.getfield 19, 3) := by decide +kernel
theorem dX3_readWord_65 : decode cX3_readWord 65 = .ok (.invokevirtual 67, 3) := by decide +kernel
theorem dX3_readWord_68 : decode cX3_readWord 68 = .ok (.goto 10, 3) := by decide +kernel
theorem dX3_readWord_71 : decode cX3_readWord 71 = .ok (.aload_n 1, 1) := by decide +kernel
theorem dX3_readWord_72 : decode cX3_readWord 72 = .ok (.iload_n 3, 1) := by decide +kernel
theorem dX3_readWord_73 : decode cX3_readWord 73 = .ok (.iload 4, 2) := by decide +kernel
theorem dX3_readWord_75 : decode cX3_readWord 75 = .ok (.invokevirtual 98, 3) := by decide +kernel
theorem dX3_readWord_78 : decode cX3_readWord 78 = .ok (.aload_n 0, 1) := by decide +kernel
theorem dX3_readWord_79 : decode cX3_readWord 79 = .ok (.dup, 1) := by decide +kernel
theorem dX3_readWord_80 : decode cX3_readWord 80 = .ok (.getfield 19, 3) := by decide +kernel
theorem dX3_readWord_83 : decode cX3_readWord 83 = .ok (.iconst 1, 1) := by decide +kernel
theorem dX3_readWord_84 : decode cX3_readWord 84 = .ok (.iadd, 1) := by decide +kernel
theorem dX3_readWord_85 : decode cX3_readWord 85 = .ok (.putfield 19, 3) := by decide +kernel
theorem dX3_readWord_88 : decode cX3_readWord 88 = .ok (.iinc 3 1, 3) := by decide +kernel
theorem dX3_readWord_91 : decode cX3_readWord 91 = .ok (.goto (-82), 3) := by decide +kernel
theorem dX3_readWord_94 : decode cX3_readWord 94 = .ok (.return_, 1) := by decide +kernel
theorem dX3_endWord_0 : decode cX3_endWord 0 = .ok (.aload_n 0, 1) := by decide +kernel
theorem dX3_endWord_1 : decode cX3_endWord 1 = .ok (.getfield 19, 3) := by decide +kernel
theorem dX3_endWord_4 : decode cX3_endWord 4 = .ok (.istore 4, 2) := by decide +kernel
theorem dX3_endWord_6 : decode cX3_endWord 6 = .ok (.aload_n 0, 1) := by decide +kernel
theorem dX3_endWord_7 : decode cX3_endWord 7 = .ok (.iload_n 3, 1) := by decide +kernel
theorem dX3_endWord_8 : decode cX3_endWord 8 = .ok (.invokevirtual 87, 3) := by decide +kernel
theorem dX3_endWord_11 : decode cX3_endWord 11 = .ok (.aload_n 0, 1) := by decide +kernel
theorem dX3_endWord_12 : decode cX3_endWord 12 = .ok (.getfield 22, 3) := by decide +kernel
theorem dX3_endWord_15 : decode cX3_endWord 15 = .ok (.ifCond .ne 19, 3) := by decide +kernel
theorem dX3_endWord_18 : decode cX3_endWord 18 = .ok (.aload_n 1, 1) := by decide +kernel
theorem dX3_endWord_19 : decode cX3_endWord 19 = .ok (.iload_n 2, 1) := by decide +kernel
theorem dX3_endWord_20 : decode cX3_endWord 20 = .ok (.iload_n 3, 1) := by decide +kernel
theorem dX3_endWord_21 : decode cX3_endWord 21 = .ok (.invokevirtual 101, 3) := by decide +kernel
theorem dX3_endWord_24 : decode cX3_endWord 24 = .ok (.ifCond .ne 10, 3) := by decide +kernel
theorem dX3_endWord_27 : decode cX3_endWord 27 = .ok (.aload_n 0, 1) := by decide +kernel
theorem dX3_endWord_28 : decode cX3_endWord 28 = .ok (.iconst 4, 1) := by decide +kernel
theorem dX3_endWord_29 : decode cX3_endWord 29 = .ok (.iload 4, 2) := by decide +kernel
theorem dX3_endWord_31 : decode cX3_endWord 31 = .ok (.invokevirtual 67, 3) := by decide +kernel
theorem dX3_endWord_34 : decode cX3_endWord 34 = .ok (.return_, 1) := by decide +kernel
theorem dX3_endLetters_0 : decode cX3_endLetters 0 = .ok (.iload_n 1, 1) := by decide +kernel
theorem dX3_endLetters_1 : decode cX3_endLetters 1 = .ok (.ifCond .ne 12, 3) := by decide +kernel
theorem dX3_endLetters_4 : decode cX3_endLetters 4 = .ok (.aload_n 0, 1) := by decide +kernel
theorem dX3_endLetters_5 : decode cX3_endLetters 5 = .ok (.iconst 1, 1) := by decide +kernel
theorem dX3_endLetters_6 : decode cX3_endLetters 6 = .ok (.aload_n 0, 1) := by decide +kernel
theorem dX3_endLetters_7 : decode cX3_endLetters 7 = .ok (.getfield 19, 3) := by decide +kernel
theorem dX3_endLetters_10 : decode cX3_endLetters 10 = .ok (.invokevirtual 67, 3) := by decide +kernel
theorem dX3_endLetters_13 : decode cX3_endLetters 13 = .ok (.aload_n 0, 1) := by decide +kernel
theorem dX3_endLetters_14 : decode cX3_endLetters 14 = .ok (.bipush 59, 2) := by decide +kernel
theorem dX3_endLetters_16 : decode cX3_endLetters 16 = .ok (.invokevirtual 79, 3) := by decide +kernel
theorem dX3_endLetters_19 : decode cX3_endLetters 19 = .ok (.return_, 1) := by decide +kernel
theorem dX3_readNumber_0 : decode cX3_readNumber 0 = .ok (.aload_n 0, 1) := by decide +kernel
theorem dX3_readNumber_1 : decode cX3_readNumber 1 = .ok (.invokevirtual 33, 3) := by decide +kernel
theorem dX3_readNumber_4 : decode cX3_readNumber 4 = .ok (.aload_n 0, 1) := by decide +kernel
theorem dX3_readNumber_5 : decode cX3_readNumber 5 = .ok (.getfield 19, 3) := by decide +kernel
theorem dX3_readNumber_8 : decode cX3_readNumber 8 = .ok (.istore_n 3, 1) := by decide +kernel
theorem dX3_readNumber_9 : decode cX3_readNumber 9 = .ok (.iconst 0, 1) := by decide +kernel
theorem dX3_readNumber_10 : decode cX3_readNumber 10 = .ok (.istore 4, 2) := by decide +kernel
theorem dX3_readNumber_12 : decode cX3_readNumber 12 = .ok (.aload_n 0, 1) := by decide +kernel
theorem dX3_readNumber_13 : decode cX3_readNumber 13 = .ok (.getfield 19, 3) := by decide +kernel
theorem dX3_readNumber_16 : decode cX3_readNumber 16 = .ok (.aload_n 0, 1) := by decide +kernel
theorem dX3_readNumber_17 : decode cX3_readNumber 17 = .ok (.getfield 15, 3) := by decide +kernel
theorem dX3_readNumber_20 : decode cX3_readNumber 20 = .ok (.if_icmp .ge 70, 3) := by decide +kernel
theorem dX3_readNumber_23 : decode cX3_readNumber 23 = .ok (.aload_n 0, 1) := by decide +kernel
theorem dX3_readNumber_24 : decode cX3_readNumber 24 = .ok (.getfield 9, 3) := by decide +kernel
theorem dX3_readNumber_27 : decode cX3_readNumber 27 = .ok (.aload_n 0, 1) := by decide +kernel
theorem dX3_readNumber_28 : decode cX3_readNumber 28 = .ok (.getfield 19, 3) := by decide +kernel
theorem dX3_readNumber_31 : decode cX3_readNumber 31 = .ok (.caload, 1) := by decide +kernel
theorem dX3_readNumber_32 : decode cX3_readNumber 32 = .ok (.bipush 48, 2) := by decide +kernel
theorem dX3_readNumber_34 : decode cX3_readNumber 34 = .ok (.if_icmp .lt 56, 3) := by decide +kernel
theorem dX3_readNumber_37 : decode cX3_readNumber 37 = .ok (.aload_n 0, 1) := by decide +kernel
theorem dX3_readNumber_38 : decode cX3_readNumber 38 = .ok (.getfield 9, 3) := by decide +kernel
theorem dX3_readNumber_41 : decode cX3_readNumber 41 = .ok (.aload_n 0, 1) := by decide +kernel
theorem dX3_readNumber_42 : decode cX3_readNumber 42 = .ok (.getfield 19, 3) := by decide +kernel
theorem dX3_readNumber_45 : decode cX3_readNumber 45 = .ok (.caload, 1) := by decide +kernel
theorem dX3_readNumber_46 : decode cX3_readNumber 46 = .ok (.bipush 57, 2) := by decide +kernel
theorem dX3_readNumber_48 : decode cX3_readNumber 48 = .ok (.if_icmp .gt 42, 3) := by decide +kernel
theorem dX3_readNumber_51 : decode cX3_readNumber 51 = .ok (.sipush 1000, 3) := by decide +kernel
theorem dX3_readNumber_54 : decode cX3_readNumber 54 = .ok (.iload 4, 2) := by decide +kernel
theorem dX3_readNumber_56 : decode cX3_readNumber 56 = .ok (.bipush 10, 2) := by decide +kernel
theorem dX3_readNumber_58 : decode cX3_readNumber 58 = .ok (.imul, 1) := by decide +kernel
theorem dX3_readNumber_59 : decode cX3_readNumber 59 = .ok (.aload_n 0, 1) := by decide +kernel
theorem dX3_readNumber_60 : decode cX3_readNumber 60 = .ok (.getfield 9, 3) := by decide +kernel
theorem dX3_readNumber_63 : decode cX3_readNumber 63 = .ok (.aload_n 0, 1) := by decide +kernel
theorem dX3_readNumber_64 : decode cX3_readNumber 64 = .ok (.getfield 19, 3) := by decide +kernel
theorem dX3_readNumber_67 : decode cX3_readNumber 67 = .ok (.caload, 1) := by decide +kernel
theorem dX3_readNumber_68 : decode cX3_readNumber 68 = .ok (.iadd, 1) := by decide +kernel
theorem dX3_readNumber_69 : decode cX3_readNumber 69 = .ok (.bipush 48, 2) := by decide +kernel
theorem dX3_readNumber_71 : decode cX3_readNumber 71 = .ok (.isub, 1) := by decide +kernel
theorem dX3_readNumber_72 : decode cX3_readNumber 72 = .ok (.invokestatic 105, 3) := by decide +kernel
theorem dX3_readNumber_75 : decode cX3_readNumber 75 = .ok (.istore 4, 2) := by decide +kernel
theorem dX3_readNumber_77 : decode cX3_readNumber 77 = .ok (.aload_n 0, 1) := by decide +kernel
theorem dX3_readNumber_78 : decode cX3_readNumber 78 = .ok (.dup, 1) := by decide +kernel
theorem dX3_readNumber_79 : decode cX3_readNumber 79 = .ok (.getfield 19, 3) := by decide +kernel
theorem dX3_readNumber_82 : decode cX3_readNumber 82 = .ok (.iconst 1, 1) := by decide +kernel
theorem dX3_readNumber_83 : decode cX3_readNumber 83 = .ok (.iadd, 1) := by decide +kernel
theorem dX3_readNumber_84 : decode cX3_readNumber 84 = .ok (.putfield 19, 3) := by decide +kernel
theorem dX3_readNumber_87 : decode cX3_readNumber 87 = .ok (.goto (-75), 3) := by decide +kernel
theorem dX3_readNumber_90 : decode cX3_readNumber 90 = .ok (.aload_n 0, 1) := by decide +kernel
theorem dX3_readNumber_91 : decode cX3_readNumber 91 = .ok (.getfield 19, 3) := by decide +kernel
theorem dX3_readNumber_94 : decode cX3_readNumber 94 = .ok (.iload_n 3, 1) := by decide +kernel
theorem dX3_readNumber_95 : decode cX3_readNumber 95 = .ok (.if_icmp .ne 15, 3) := by decide +kernel
theorem dX3_readNumber_98 : decode cX3_readNumber 98 = .ok (.aload_n 0, 1) := by decide +kernel
theorem dX3_readNumber_99 : decode cX3_readNumber 99 = .ok (.iconst 1, 1) := by decide +kernel
theorem dX3_readNumber_100 : decode cX3_readNumber 100 = .ok (.aload_n 0, 1) := by decide +kernel
theorem dX3_readNumber_101 : decode cX3_readNumber 101 = .ok (.getfield 19, 3) := by decide +kernel
theorem dX3_readNumber_104 : decode cX3_readNumber 104 = .ok (.invokevirtual 67, 3) := by decide +kernel
theorem dX3_readNumber_107 : decode cX3_readNumber 107 = .ok (.goto 31, 3) := by decide +kernel
theorem dX3_readNumber_110 : decode cX3_readNumber 110 = .ok (.aload_n 0, 1) := by decide +kernel
theorem dX3_readNumber_111 : decode cX3_readNumber 111 = .ok (.getfield 19, 3) := by decide +kernel
theorem dX3_readNumber_114 : decode cX3_readNumber 114 = .ok (.iload_n 3, 1) := by decide +kernel
theorem dX3_readNumber_115 : decode cX3_readNumber 115 = .ok (.isub, 1) := by decide +kernel
theorem dX3_readNumber_116 : decode cX3_readNumber 116 = .ok (.iconst 3, 1) := by decide +kernel
theorem dX3_readNumber_117 : decode cX3_readNumber 117 = .ok (.if_icmp .gt 15, 3) := by decide +kernel
theorem dX3_readNumber_120 : decode cX3_readNumber 120 = .ok (.iload 4, 2) := by decide +kernel
theorem dX3_readNumber_122 : decode cX3_readNumber 122 = .ok (.iload_n 1, 1) := by decide +kernel
theorem dX3_readNumber_123 : decode cX3_readNumber 123 = .ok (.if_icmp .lt 9, 3) := by decide +kernel
theorem dX3_readNumber_126 : decode cX3_readNumber 126 = .ok (.iload 4, 2) := by decide +kernel
theorem dX3_readNumber_128 : decode cX3_readNumber 128 = .ok (.iload_n 2, 1) := by decide +kernel
theorem dX3_readNumber_129 : decode cX3_readNumber 129 = .ok (.if_icmp .le 9, 3) := by decide +kernel
theorem dX3_readNumber_132 : decode cX3_readNumber 132 = .ok (.aload_n 0, 1) := by decide +kernel
theorem dX3_readNumber_133 : decode cX3_readNumber 133 = .ok (.iconst 2, 1) := by decide +kernel
theorem dX3_readNumber_134 : decode cX3_readNumber 134 = .ok (.iload_n 3, 1) := by decide +kernel
theorem dX3_readNumber_135 : decode cX3_readNumber 135 = .ok (.invokevirtual 67, 3) := by decide +kernel
theorem dX3_readNumber_138 : decode cX3_readNumber 138 = .ok (.iload 4, 2) := by decide +kernel
theorem dX3_readNumber_140 : decode cX3_readNumber 140 = .ok (.ireturn, 1) := by decide +kernel
theorem dX3_pass_0 : decode cX3_pass 0 = .ok (.aload_n 0, 1) := by decide +kernel
theorem dX3_pass_1 : decode cX3_pass 1 = .ok (.getfield 19, 3) := by decide +kernel
theorem dX3_pass_4 : decode cX3_pass 4 = .ok (.aload_n 0, 1) := by decide +kernel
theorem dX3_pass_5 : decode cX3_pass 5 = .ok (.getfield 15, 3) := by decide +kernel
theorem dX3_pass_8 : decode cX3_pass 8 = .ok (.if_icmp .ge 29, 3) := by decide +kernel
theorem dX3_pass_11 : decode cX3_pass 11 = .ok (.aload_n 0, 1) := by decide +kernel
theorem dX3_pass_12 : decode cX3_pass 12 = .ok (.getfield 9, 3) := by decide +kernel
theorem dX3_pass_15 : decode cX3_pass 15 = .ok (.aload_n 0, 1) := by decide +kernel
theorem dX3_pass_16 : decode cX3_pass 16 = .ok (.getfield 19, 3) := by decide +kernel
theorem dX3_pass_19 : decode cX3_pass 19 = .ok (.caload, 1) := by decide +kernel
theorem dX3_pass_20 : decode cX3_pass 20 = .ok (.iload_n 1, 1) := by decide +kernel
theorem dX3_pass_21 : decode cX3_pass 21 = .ok (.if_icmp .ne 16, 3) := by decide +kernel
theorem dX3_pass_24 : decode cX3_pass 24 = .ok (.aload_n 0, 1) := by decide +kernel
theorem dX3_pass_25 : decode cX3_pass 25 = .ok (.dup, 1) := by decide +kernel
theorem dX3_pass_26 : decode cX3_pass 26 = .ok (.getfield 19, 3) := by decide +kernel
theorem dX3_pass_29 : decode cX3_pass 29 = .ok (.iconst 1, 1) := by decide +kernel
theorem dX3_pass_30 : decode cX3_pass 30 = .ok (.iadd, 1) := by decide +kernel
theorem dX3_pass_31 : decode cX3_pass 31 = .ok (.putfield 19, 3) := by decide +kernel
theorem dX3_pass_34 : decode cX3_pass 34 = .ok (.goto 12, 3) := by decide +kernel
theorem dX3_pass_37 : decode cX3_pass 37 = .ok (.aload_n 0, 1) := by decide +kernel
theorem dX3_pass_38 : decode cX3_pass 38 = .ok (.iconst 1, 1) := by decide +kernel
theorem dX3_pass_39 : decode cX3_pass 39 = .ok (.aload_n 0, 1) := by decide +kernel
theorem dX3_pass_40 : decode cX3_pass 40 = .ok (.getfield 19, 3) := by decide +kernel
theorem dX3_pass_43 : decode cX3_pass 43 = .ok (.invokevirtual 67, 3) := by decide +kernel
theorem dX3_pass_46 : decode cX3_pass 46 = .ok (.return_, 1) := by decide +kernel
theorem dX3_stands_0 : decode cX3_stands 0 = .ok (.aload_n 0, 1) := by decide +kernel
theorem dX3_stands_1 : decode cX3_stands 1 = .ok (.getfield 19, 3) := by decide +kernel
theorem dX3_stands_4 : decode cX3_stands 4 = .ok (.aload_n 0, 1) := by decide +kernel
theorem dX3_stands_5 : decode cX3_stands 5 = .ok (.getfield 15, 3) := by decide +kernel
theorem dX3_stands_8 : decode cX3_stands 8 = .ok (.if_icmp .ge 20, 3) := by decide +kernel
theorem dX3_stands_11 : decode cX3_stands 11 = .ok (.aload_n 0, 1) := by decide +kernel
theorem dX3_stands_12 : decode cX3_stands 12 = .ok (.getfield 9, 3) := by decide +kernel
theorem dX3_stands_15 : decode cX3_stands 15 = .ok (.aload_n 0, 1) := by decide +kernel
theorem dX3_stands_16 : decode cX3_stands 16 = .ok (.getfield 19, 3) := by decide +kernel
theorem dX3_stands_19 : decode cX3_stands 19 = .ok (.caload, 1) := by decide +kernel
theorem dX3_stands_20 : decode cX3_stands 20 = .ok (.iload_n 1, 1) := by decide +kernel
theorem dX3_stands_21 : decode cX3_stands 21 = .ok (.if_icmp .ne 7, 3) := by decide +kernel
theorem dX3_stands_24 : decode cX3_stands 24 = .ok (.iconst 1, 1) := by decide +kernel
theorem dX3_stands_25 : decode cX3_stands 25 = .ok (.goto 4, 3) := by decide +kernel
theorem dX3_stands_28 : decode cX3_stands 28 = .ok (.iconst 0, 1) := by decide +kernel
theorem dX3_stands_29 : decode cX3_stands 29 = .ok (.ireturn, 1) := by decide +kernel
theorem dX3_skipSpaces_0 : decode cX3_skipSpaces 0 = .ok (.aload_n 0, 1) := by decide +kernel
theorem dX3_skipSpaces_1 : decode cX3_skipSpaces 1 = .ok (.getfield 19, 3) := by decide +kernel
theorem dX3_skipSpaces_4 : decode cX3_skipSpaces 4 = .ok (.aload_n 0, 1) := by decide +kernel
theorem dX3_skipSpaces_5 : decode cX3_skipSpaces 5 = .ok (.getfield 15, 3) := by decide +kernel
theorem dX3_skipSpaces_8 : decode cX3_skipSpaces 8 = .ok (.if_icmp .ge 30, 3) := by decide +kernel
theorem dX3_skipSpaces_11 : decode cX3_skipSpaces 11 = .ok (.aload_n 0, 1) := by decide +kernel
theorem dX3_skipSpaces_12 : decode cX3_skipSpaces 12 = .ok (.getfield 9, 3) := by decide +kernel
theorem dX3_skipSpaces_15 : decode cX3_skipSpaces 15 = .ok (.aload_n 0, 1) := by decide +kernel
theorem dX3_skipSpaces_16 : decode cX3_skipSpaces 16 = .ok (.getfield 19, 3) := by decide +kernel
theorem dX3_skipSpaces_19 : decode cX3_skipSpaces 19 = .ok (.caload, 1) := by decide +kernel
theorem dX3_skipSpaces_20 : decode cX3_skipSpaces 20 = .ok (.bipush 32, 2) := by decide +kernel
theorem dX3_skipSpaces_22 : decode cX3_skipSpaces 22 = .ok (.if_icmp .ne 16, 3) := by decide +kernel
theorem dX3_skipSpaces_25 : decode cX3_skipSpaces 25 = .ok (.aload_n 0, 1) := by decide +kernel
theorem dX3_skipSpaces_26 : decode cX3_skipSpaces 26 = .ok (.dup, 1) := by decide +kernel
theorem dX3_skipSpaces_27 : decode cX3_skipSpaces 27 = .ok (.getfield 19, 3) := by decide +kernel
theorem dX3_skipSpaces_30 : decode cX3_skipSpaces 30 = .ok (.iconst 1, 1) := by decide +kernel
theorem dX3_skipSpaces_31 : decode cX3_skipSpaces 31 = .ok (.iadd, 1) := by decide +kernel
theorem dX3_skipSpaces_32 : decode cX3_skipSpaces 32 = .ok (.putfield 19, 3) := by decide +kernel
theorem dX3_skipSpaces_35 : decode cX3_skipSpaces 35 = .ok (.goto (-35), 3) := by decide +kernel
theorem dX3_skipSpaces_38 : decode cX3_skipSpaces 38 = .ok (.return_, 1) := by decide +kernel
theorem dX3_sortHere_0 : decode cX3_sortHere 0 = .ok (.aload_n 0, 1) := by decide +kernel
theorem dX3_sortHere_1 : decode cX3_sortHere 1 = .ok (.getfield 19, 3) := by decide +kernel
theorem dX3_sortHere_4 : decode cX3_sortHere 4 = .ok (.aload_n 0, 1) := by decide +kernel
theorem dX3_sortHere_5 : decode cX3_sortHere 5 = .ok (.getfield 15, 3) := by decide +kernel
theorem dX3_sortHere_8 : decode cX3_sortHere 8 = .ok (.if_icmp .lt 5, 3) := by decide +kernel
theorem dX3_sortHere_11 : decode cX3_sortHere 11 = .ok (.iconst (-1), 1) := by decide +kernel
theorem dX3_sortHere_12 : decode cX3_sortHere 12 = .ok (.ireturn, 1) := by decide +kernel
theorem dX3_sortHere_13 : decode cX3_sortHere 13 = .ok (.aload_n 0, 1) := by decide +kernel
theorem dX3_sortHere_14 : decode cX3_sortHere 14 = .ok (.getfield 9, 3) := by decide +kernel
theorem dX3_sortHere_17 : decode cX3_sortHere 17 = .ok (.aload_n 0, 1) := by decide +kernel
theorem dX3_sortHere_18 : decode cX3_sortHere 18 = .ok (.getfield 19, 3) := by decide +kernel
theorem dX3_sortHere_21 : decode cX3_sortHere 21 = .ok (.caload, 1) := by decide +kernel
theorem dX3_sortHere_22 : decode cX3_sortHere 22 = .ok (.istore_n 1, 1) := by decide +kernel
theorem dX3_sortHere_23 : decode cX3_sortHere 23 = .ok (.iload_n 1, 1) := by decide +kernel
theorem dX3_sortHere_24 : decode cX3_sortHere 24 = .ok (.bipush 42, 2) := by decide +kernel
theorem dX3_sortHere_26 : decode cX3_sortHere 26 = .ok (.if_icmp .ne 6, 3) := by decide +kernel
theorem dX3_sortHere_29 : decode cX3_sortHere 29 = .ok (.bipush 8, 2) := by decide +kernel
theorem dX3_sortHere_31 : decode cX3_sortHere 31 = .ok (.ireturn, 1) := by decide +kernel
theorem dX3_sortHere_32 : decode cX3_sortHere 32 = .ok (.iload_n 1, 1) := by decide +kernel
theorem dX3_sortHere_33 : decode cX3_sortHere 33 = .ok (.bipush 97, 2) := by decide +kernel
theorem dX3_sortHere_35 : decode cX3_sortHere 35 = .ok (.if_icmp .lt 16, 3) := by decide +kernel
theorem dX3_sortHere_38 : decode cX3_sortHere 38 = .ok (.iload_n 1, 1) := by decide +kernel
theorem dX3_sortHere_39 : decode cX3_sortHere 39 = .ok (.bipush 104, 2) := by decide +kernel
theorem dX3_sortHere_41 : decode cX3_sortHere 41 = .ok (.if_icmp .gt 10, 3) := by decide +kernel
theorem dX3_sortHere_44 : decode cX3_sortHere 44 = .ok (.iload_n 1, 1) := by decide +kernel
theorem dX3_sortHere_45 : decode cX3_sortHere 45 = .ok (.bipush 97, 2) := by decide +kernel
theorem dX3_sortHere_47 : decode cX3_sortHere 47 = .ok (.isub, 1) := by decide +kernel
theorem dX3_sortHere_48 : decode cX3_sortHere 48 = .ok (.goto 4, 3) := by decide +kernel
theorem dX3_sortHere_51 : decode cX3_sortHere 51 = .ok (.iconst (-1), 1) := by decide +kernel
theorem dX3_sortHere_52 : decode cX3_sortHere 52 = .ok (.ireturn, 1) := by decide +kernel
theorem dX3_fail_0 : decode cX3_fail 0 = .ok (.aload_n 0, 1) := by decide +kernel
theorem dX3_fail_1 : decode cX3_fail 1 = .ok (.getfield 22, 3) := by decide +kernel
theorem dX3_fail_4 : decode cX3_fail 4 = .ok (.ifCond .ne 13, 3) := by decide +kernel
theorem dX3_fail_7 : decode cX3_fail 7 = .ok (.aload_n 0, 1) := by decide +kernel
theorem dX3_fail_8 : decode cX3_fail 8 = .ok (.iload_n 1, 1) := by decide +kernel
theorem dX3_fail_9 : decode cX3_fail 9 = .ok (.putfield 22, 3) := by decide +kernel
theorem dX3_fail_12 : decode cX3_fail 12 = .ok (.aload_n 0, 1) := by decide +kernel
theorem dX3_fail_13 : decode cX3_fail 13 = .ok (.iload_n 2, 1) := by decide +kernel
theorem dX3_fail_14 : decode cX3_fail 14 = .ok (.putfield 25, 3) := by decide +kernel
theorem dX3_fail_17 : decode cX3_fail 17 = .ok (.return_, 1) := by decide +kernel
