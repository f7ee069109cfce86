theorem dX7_changeLeg_114 : decode cX7_changeLeg 114 = .ok (.goto (-106), 3) := by decide +kernel
theorem dX7_changeLeg_117 : decode cX7_changeLeg 117 = .ok (.return_, 1) := by decide +kernel
theorem dX7_changeAllLegs_0 : decode cX7_changeAllLegs 0 = .ok (.iconst 0, 1) := by decide +kernel
theorem dX7_changeAllLegs_1 : decode cX7_changeAllLegs 1 = .ok (.istore_n 3, 1) := by decide +kernel
theorem dX7_changeAllLegs_2 : decode cX7_changeAllLegs 2 = .ok (.iload_n 3, 1) := by decide +kernel
theorem dX7_changeAllLegs_3 : decode cX7_changeAllLegs 3 = .ok (.aload_n 0, 1) := by decide +kernel
theorem dX7_changeAllLegs_4 : decode cX7_changeAllLegs 4 = .ok (.getfield 9, 3) := by decide +kernel
theorem dX7_changeAllLegs_7 : decode cX7_changeAllLegs 7 = .ok (.if_icmp .ge 16, 3) := by decide +kernel
theorem dX7_changeAllLegs_10 : decode cX7_changeAllLegs 10 = .ok (.aload_n 0, 1) := by decide +kernel
theorem dX7_changeAllLegs_11 : decode cX7_changeAllLegs 11 = .ok (.iload_n 3, 1) := by decide +kernel
theorem dX7_changeAllLegs_12 : decode cX7_changeAllLegs 12 = .ok (.aload_n 1, 1) := by decide +kernel
theorem dX7_changeAllLegs_13 : decode cX7_changeAllLegs 13 = .ok (.iload_n 2, 1) := by decide +kernel
theorem dX7_changeAllLegs_14 : decode cX7_changeAllLegs 14 = .ok (.invokevirtual 64, 3) := by decide +kernel
theorem dX7_changeAllLegs_17 : decode cX7_changeAllLegs 17 = .ok (.iinc 3 1, 3) := by decide +kernel
theorem dX7_changeAllLegs_20 : decode cX7_changeAllLegs 20 = .ok (.goto (-18), 3) := by decide +kernel
theorem dX7_changeAllLegs_23 : decode cX7_changeAllLegs 23 = .ok (.return_, 1) := by decide +kernel
theorem dX7_multiply_0 : decode cX7_multiply 0 = .ok (.iconst 0, 1) := by decide +kernel
theorem dX7_multiply_1 : decode cX7_multiply 1 = .ok (.istore_n 3, 1) := by decide +kernel
theorem dX7_multiply_2 : decode cX7_multiply 2 = .ok (.iload_n 3, 1) := by decide +kernel
theorem dX7_multiply_3 : decode cX7_multiply 3 = .ok (.aload_n 0, 1) := by decide +kernel
theorem dX7_multiply_4 : decode cX7_multiply 4 = .ok (.invokevirtual 19, 3) := by decide +kernel
theorem dX7_multiply_7 : decode cX7_multiply 7 = .ok (.if_icmp .ge 27, 3) := by decide +kernel
theorem dX7_multiply_10 : decode cX7_multiply 10 = .ok (.aload_n 0, 1) := by decide +kernel
theorem dX7_multiply_11 : decode cX7_multiply 11 = .ok (.getfield 15, 3) := by decide +kernel
theorem dX7_multiply_14 : decode cX7_multiply 14 = .ok (.iload_n 3, 1) := by decide +kernel
theorem dX7_multiply_15 : decode cX7_multiply 15 = .ok (.iload_n 1, 1) := by decide +kernel
theorem dX7_multiply_16 : decode cX7_multiply 16 = .ok (.aload_n 0, 1) := by decide +kernel
theorem dX7_multiply_17 : decode cX7_multiply 17 = .ok (.getfield 15, 3) := by decide +kernel
theorem dX7_multiply_20 : decode cX7_multiply 20 = .ok (.iload_n 3, 1) := by decide +kernel
theorem dX7_multiply_21 : decode cX7_multiply 21 = .ok (.iaload, 1) := by decide +kernel
theorem dX7_multiply_22 : decode cX7_multiply 22 = .ok (.imul, 1) := by decide +kernel
theorem dX7_multiply_23 : decode cX7_multiply 23 = .ok (.iload_n 2, 1) := by decide +kernel
theorem dX7_multiply_24 : decode cX7_multiply 24 = .ok (.invokestatic 35, 3) := by decide +kernel
theorem dX7_multiply_27 : decode cX7_multiply 27 = .ok (.iastore, 1) := by decide +kernel
theorem dX7_multiply_28 : decode cX7_multiply 28 = .ok (.iinc 3 1, 3) := by decide +kernel
theorem dX7_multiply_31 : decode cX7_multiply 31 = .ok (.goto (-29), 3) := by decide +kernel
theorem dX7_multiply_34 : decode cX7_multiply 34 = .ok (.return_, 1) := by decide +kernel
theorem dX7_exchangeLegs_0 : decode cX7_exchangeLegs 0 = .ok (.iconst 1, 1) := by decide +kernel
theorem dX7_exchangeLegs_1 : decode cX7_exchangeLegs 1 = .ok (.iload_n 1, 1) := by decide +kernel
theorem dX7_exchangeLegs_2 : decode cX7_exchangeLegs 2 = .ok (.ishl, 1) := by decide +kernel
theorem dX7_exchangeLegs_3 : decode cX7_exchangeLegs 3 = .ok (.iconst 1, 1) := by decide +kernel
theorem dX7_exchangeLegs_4 : decode cX7_exchangeLegs 4 = .ok (.iload_n 2, 1) := by decide +kernel
theorem dX7_exchangeLegs_5 : decode cX7_exchangeLegs 5 = .ok (.ishl, 1) := by decide +kernel
theorem dX7_exchangeLegs_6 : decode cX7_exchangeLegs 6 = .ok (.ior, 1) := by decide +kernel
theorem dX7_exchangeLegs_7 : decode cX7_exchangeLegs 7 = .ok (.istore_n 3, 1) := by decide +kernel
theorem dX7_exchangeLegs_8 : decode cX7_exchangeLegs 8 = .ok (.iconst 0, 1) := by decide +kernel
theorem dX7_exchangeLegs_9 : decode cX7_exchangeLegs 9 = .ok (.istore 4, 2) := by decide +kernel
theorem dX7_exchangeLegs_11 : decode cX7_exchangeLegs 11 = .ok (.iload 4, 2) := by decide +kernel
theorem dX7_exchangeLegs_13 : decode cX7_exchangeLegs 13 = .ok (.aload_n 0, 1) := by decide +kernel
theorem dX7_exchangeLegs_14 : decode cX7_exchangeLegs 14 = .ok (.invokevirtual 19, 3) := by decide +kernel
theorem dX7_exchangeLegs_17 : decode cX7_exchangeLegs 17 = .ok (.if_icmp .ge 64, 3) := by decide +kernel
theorem dX7_exchangeLegs_20 : decode cX7_exchangeLegs 20 = .ok (.iload 4, 2) := by decide +kernel
theorem dX7_exchangeLegs_22 : decode cX7_exchangeLegs 22 = .ok (.iload_n 3, 1) := by decide +kernel
theorem dX7_exchangeLegs_23 : decode cX7_exchangeLegs 23 = .ok (.iand, 1) := by decide +kernel
theorem dX7_exchangeLegs_24 : decode cX7_exchangeLegs 24 = .ok (.iconst 1, 1) := by decide +kernel
theorem dX7_exchangeLegs_25 : decode cX7_exchangeLegs 25 = .ok (.iload_n 1, 1) := by decide +kernel
theorem dX7_exchangeLegs_26 : decode cX7_exchangeLegs 26 = .ok (.ishl, 1) := by decide +kernel
theorem dX7_exchangeLegs_27 : decode cX7_exchangeLegs 27 = .ok (.if_icmp .ne 48, 3) := by decide +kernel
theorem dX7_exchangeLegs_30 : decode cX7_exchangeLegs 30 = .ok (.iload 4, 2) := by decide +kernel
theorem dX7_exchangeLegs_32 : decode cX7_exchangeLegs 32 = .ok (.iload_n 3, 1) := by decide +kernel
theorem dX7_exchangeLegs_33 : decode cX7_exchangeLegs 33 = .ok (.ixor, 1) := by decide +kernel
theorem dX7_exchangeLegs_34 : decode cX7_exchangeLegs 34 = .ok (.bipush 16, 2) := by decide +kernel
theorem dX7_exchangeLegs_36 : decode cX7_exchangeLegs 36 = .ok (.if_icmp .ge 39, 3) := by decide +kernel
theorem dX7_exchangeLegs_39 : decode cX7_exchangeLegs 39 = .ok (.aload_n 0, 1) := by decide +kernel
theorem dX7_exchangeLegs_40 : decode cX7_exchangeLegs 40 = .ok (.getfield 15, 3) := by decide +kernel
theorem dX7_exchangeLegs_43 : decode cX7_exchangeLegs 43 = .ok (.iload 4, 2) := by decide +kernel
theorem dX7_exchangeLegs_45 : decode cX7_exchangeLegs 45 = .ok (.iaload, 1) := by decide +kernel
theorem dX7_exchangeLegs_46 : decode cX7_exchangeLegs 46 = .ok (.istore 5, 2) := by decide +kernel
theorem dX7_exchangeLegs_48 : decode cX7_exchangeLegs 48 = .ok (.aload_n 0, 1) := by decide +kernel
theorem dX7_exchangeLegs_49 : decode cX7_exchangeLegs 49 = .ok (.getfield 15, 3) := by decide +kernel
theorem dX7_exchangeLegs_52 : decode cX7_exchangeLegs 52 = .ok (.iload 4, 2) := by decide +kernel
theorem dX7_exchangeLegs_54 : decode cX7_exchangeLegs 54 = .ok (.aload_n 0, 1) := by decide +kernel
theorem dX7_exchangeLegs_55 : decode cX7_exchangeLegs 55 = .ok (.getfield 15, 3) := by decide +kernel
theorem dX7_exchangeLegs_58 : decode cX7_exchangeLegs 58 = .ok (.iload 4, 2) := by decide +kernel
theorem dX7_exchangeLegs_60 : decode cX7_exchangeLegs 60 = .ok (.iload_n 3, 1) := by decide +kernel
theorem dX7_exchangeLegs_61 : decode cX7_exchangeLegs 61 = .ok (.ixor, 1) := by decide +kernel
theorem dX7_exchangeLegs_62 : decode cX7_exchangeLegs 62 = .ok (.iaload, 1) := by decide +kernel
theorem dX7_exchangeLegs_63 : decode cX7_exchangeLegs 63 = .ok (.iastore, 1) := by decide +kernel
theorem dX7_exchangeLegs_64 : decode cX7_exchangeLegs 64 = .ok (.aload_n 0, 1) := by decide +kernel
theorem dX7_exchangeLegs_65 : decode cX7_exchangeLegs 65 = .ok (.getfield 15, 3) := by decide +kernel
theorem dX7_exchangeLegs_68 : decode cX7_exchangeLegs 68 = .ok (.iload 4, 2) := by decide +kernel
theorem dX7_exchangeLegs_70 : decode cX7_exchangeLegs 70 = .ok (.iload_n 3, 1) := by decide +kernel
theorem dX7_exchangeLegs_71 : decode cX7_exchangeLegs 71 = .ok (.ixor, 1) := by decide +kernel
theorem dX7_exchangeLegs_72 : decode cX7_exchangeLegs 72 = .ok (.iload 5, 2) := by decide +kernel
theorem dX7_exchangeLegs_74 : decode cX7_exchangeLegs 74 = .ok (.iastore, 1) := by decide +kernel
theorem dX7_exchangeLegs_75 : decode cX7_exchangeLegs 75 = .ok (.iinc 4 1, 3) := by decide +kernel
theorem dX7_exchangeLegs_78 : decode cX7_exchangeLegs 78 = .ok (.goto (-67), 3) := by decide +kernel
theorem dX7_exchangeLegs_81 : decode cX7_exchangeLegs 81 = .ok (.return_, 1) := by decide +kernel
theorem dX7_foldLeg_0 : decode cX7_foldLeg 0 = .ok (.iconst 1, 1) := by decide +kernel
theorem dX7_foldLeg_1 : decode cX7_foldLeg 1 = .ok (.iload_n 1, 1) := by decide +kernel
theorem dX7_foldLeg_2 : decode cX7_foldLeg 2 = .ok (.ishl, 1) := by decide +kernel
theorem dX7_foldLeg_3 : decode cX7_foldLeg 3 = .ok (.istore_n 3, 1) := by decide +kernel
theorem dX7_foldLeg_4 : decode cX7_foldLeg 4 = .ok (.iconst 0, 1) := by decide +kernel
theorem dX7_foldLeg_5 : decode cX7_foldLeg 5 = .ok (.istore 4, 2) := by decide +kernel
theorem dX7_foldLeg_7 : decode cX7_foldLeg 7 = .ok (.iload 4, 2) := by decide +kernel
theorem dX7_foldLeg_9 : decode cX7_foldLeg 9 = .ok (.aload_n 0, 1) := by decide +kernel
theorem dX7_foldLeg_10 : decode cX7_foldLeg 10 = .ok (.invokevirtual 19, 3) := by decide +kernel
theorem dX7_foldLeg_13 : decode cX7_foldLeg 13 = .ok (.if_icmp .ge 53, 3) := by decide +kernel
theorem dX7_foldLeg_16 : decode cX7_foldLeg 16 = .ok (.iload 4, 2) := by decide +kernel
theorem dX7_foldLeg_18 : decode cX7_foldLeg 18 = .ok (.iload_n 3, 1) := by decide +kernel
theorem dX7_foldLeg_19 : decode cX7_foldLeg 19 = .ok (.iand, 1) := by decide +kernel
theorem dX7_foldLeg_20 : decode cX7_foldLeg 20 = .ok (.ifCond .ne 40, 3) := by decide +kernel
theorem dX7_foldLeg_23 : decode cX7_foldLeg 23 = .ok (.iload 4, 2) := by decide +kernel
theorem dX7_foldLeg_25 : decode cX7_foldLeg 25 = .ok (.iload_n 3, 1) := by decide +kernel
theorem dX7_foldLeg_26 : decode cX7_foldLeg 26 = .ok (.ior, 1) := by decide +kernel
theorem dX7_foldLeg_27 : decode cX7_foldLeg 27 = .ok (.bipush 16, 2) := by decide +kernel
theorem dX7_foldLeg_29 : decode cX7_foldLeg 29 = .ok (.if_icmp .ge 31, 3) := by decide +kernel
theorem dX7_foldLeg_32 : decode cX7_foldLeg 32 = .ok (.aload_n 0, 1) := by decide +kernel
theorem dX7_foldLeg_33 : decode cX7_foldLeg 33 = .ok (.getfield 15, 3) := by decide +kernel
theorem dX7_foldLeg_36 : decode cX7_foldLeg 36 = .ok (.iload 4, 2) := by decide +kernel
theorem dX7_foldLeg_38 : decode cX7_foldLeg 38 = .ok (.aload_n 0, 1) := by decide +kernel
theorem dX7_foldLeg_39 : decode cX7_foldLeg 39 = .ok (.getfield 15, 3) := by decide +kernel
theorem dX7_foldLeg_42 : decode cX7_foldLeg 42 = .ok (.iload 4, 2) := by decide +kernel
theorem dX7_foldLeg_44 : decode cX7_foldLeg 44 = .ok (.iaload, 1) := by decide +kernel
theorem dX7_foldLeg_45 : decode cX7_foldLeg 45 = .ok (.aload_n 0, 1) := by decide +kernel
theorem dX7_foldLeg_46 : decode cX7_foldLeg 46 = .ok (.getfield 15, 3) := by decide +kernel
theorem dX7_foldLeg_49 : decode cX7_foldLeg 49 = .ok (.iload 4, 2) := by decide +kernel
theorem dX7_foldLeg_51 : decode cX7_foldLeg 51 = .ok (.iload_n 3, 1) := by decide +kernel
theorem dX7_foldLeg_52 : decode cX7_foldLeg 52 = .ok (.ior, 1) := by decide +kernel
theorem dX7_foldLeg_53 : decode cX7_foldLeg 53 = .ok (.iaload, 1) := by decide +kernel
theorem dX7_foldLeg_54 : decode cX7_foldLeg 54 = .ok (.iadd, 1) := by decide +kernel
theorem dX7_foldLeg_55 : decode cX7_foldLeg 55 = .ok (.iload_n 2, 1) := by decide +kernel
theorem dX7_foldLeg_56 : decode cX7_foldLeg 56 = .ok (.invokestatic 35, 3) := by decide +kernel
theorem dX7_foldLeg_59 : decode cX7_foldLeg 59 = .ok (.iastore, 1) := by decide +kernel
theorem dX7_foldLeg_60 : decode cX7_foldLeg 60 = .ok (.iinc 4 1, 3) := by decide +kernel
theorem dX7_foldLeg_63 : decode cX7_foldLeg 63 = .ok (.goto (-56), 3) := by decide +kernel
theorem dX7_foldLeg_66 : decode cX7_foldLeg 66 = .ok (.return_, 1) := by decide +kernel
theorem dX8_init_0 : decode cX8_init 0 = .ok (.aload_n 0, 1) := by decide +kernel
theorem dX8_init_1 : decode cX8_init 1 = .ok (.invokespecial 3, 3) := by decide +kernel
theorem dX8_init_4 : decode cX8_init 4 = .ok (.aload_n 0, 1) := by decide +kernel
theorem dX8_init_5 : decode cX8_init 5 = .ok (.iconst 0, 1) := by decide +kernel
theorem dX8_init_6 : decode cX8_init 6 = .ok (.putfield 9, 3) := by decide +kernel
theorem dX8_init_9 : decode cX8_init 9 = .ok (.aload_n 0, 1) := by decide +kernel
theorem dX8_init_10 : decode cX8_init 10 = .ok (.iconst 0, 1) := by decide +kernel
theorem dX8_init_11 : decode cX8_init 11 = .ok (.putfield 15, 3) := by decide +kernel
theorem dX8_init_14 : decode cX8_init 14 = .ok (.aload_n 0, 1) := by decide +kernel
theorem dX8_init_15 : decode cX8_init 15 = .ok (.bipush 6, 2) := by decide +kernel
theorem dX8_init_17 : decode cX8_init 17 = .ok (.newarray .int, 2) := by decide +kernel
theorem dX8_init_19 : decode cX8_init 19 = .ok (.putfield 18, 3) := by decide +kernel
theorem dX8_init_22 : decode cX8_init 22 = .ok (.aload_n 0, 1) := by decide +kernel
theorem dX8_init_23 : decode cX8_init 23 = .ok (.iconst 0, 1) := by decide +kernel
theorem dX8_init_24 : decode cX8_init 24 = .ok (.putfield 22, 3) := by decide +kernel
theorem dX8_init_27 : decode cX8_init 27 = .ok (.aload_n 0, 1) := by decide +kernel
theorem dX8_init_28 : decode cX8_init 28 = .ok (.bipush 10, 2) := by decide +kernel
theorem dX8_init_30 : decode cX8_init 30 = .ok (.newarray .int, 2) := by decide +kernel
theorem dX8_init_32 : decode cX8_init 32 = .ok (.putfield 25, 3) := by decide +kernel
theorem dX8_init_35 : decode cX8_init 35 = .ok (.aload_n 0, 1) := by decide +kernel
theorem dX8_init_36 : decode cX8_init 36 = .ok (.new 28, 3) := by decide +kernel
theorem dX8_init_39 : decode cX8_init 39 = .ok (.dup, 1) := by decide +kernel
theorem dX8_init_40 : decode cX8_init 40 = .ok (.invokespecial 30, 3) := by decide +kernel
theorem dX8_init_43 : decode cX8_init 43 = .ok (.putfield 31, 3) := by decide +kernel
theorem dX8_init_46 : decode cX8_init 46 = .ok (.return_, 1) := by decide +kernel
theorem dX8_goThrough_0 : decode cX8_goThrough 0 = .ok (.aload_n 0, 1) := by decide +kernel
theorem dX8_goThrough_1 : decode cX8_goThrough 1 = .ok (.aload_n 1, 1) := by decide +kernel
theorem dX8_goThrough_2 : decode cX8_goThrough 2 = .ok (.iload_n 2, 1) := by decide +kernel
theorem dX8_goThrough_3 : decode cX8_goThrough 3 = .ok (.invokevirtual 35, 3) := by decide +kernel
theorem dX8_goThrough_6 : decode cX8_goThrough 6 = .ok (.aload_n 0, 1) := by decide +kernel
theorem dX8_goThrough_7 : decode cX8_goThrough 7 = .ok (.aload_n 1, 1) := by decide +kernel
theorem dX8_goThrough_8 : decode cX8_goThrough 8 = .ok (.aload_n 1, 1) := by decide +kernel
theorem dX8_goThrough_9 : decode cX8_goThrough 9 = .ok (.invokevirtual 39, 3) := by decide +kernel
theorem dX8_goThrough_12 : decode cX8_goThrough 12 = .ok (.iload_n 3, 1) := by decide +kernel
theorem dX8_goThrough_13 : decode cX8_goThrough 13 = .ok (.invokevirtual 43, 3) := by decide +kernel
theorem dX8_goThrough_16 : decode cX8_goThrough 16 = .ok (.return_, 1) := by decide +kernel
theorem dX8_goThroughAll_0 : decode cX8_goThroughAll 0 = .ok (.aload_n 0, 1) := by decide +kernel
theorem dX8_goThroughAll_1 : decode cX8_goThroughAll 1 = .ok (.getfield 31, 3) := by decide +kernel
theorem dX8_goThroughAll_4 : decode cX8_goThroughAll 4 = .ok (.aload_n 1, 1) := by decide +kernel
theorem dX8_goThroughAll_5 : decode cX8_goThroughAll 5 = .ok (.invokevirtual 47, 3) := by decide +kernel
theorem dX8_goThroughAll_8 : decode cX8_goThroughAll 8 = .ok (.iconst 0, 1) := by decide +kernel
theorem dX8_goThroughAll_9 : decode cX8_goThroughAll 9 = .ok (.istore_n 3, 1) := by decide +kernel
theorem dX8_goThroughAll_10 : decode cX8_goThroughAll 10 = .ok (.iload_n 3, 1) := by decide +kernel
theorem dX8_goThroughAll_11 : decode cX8_goThroughAll 11 = .ok (.iconst 4, 1) := by decide +kernel
theorem dX8_goThroughAll_12 : decode cX8_goThroughAll 12 = .ok (.aload_n 1, 1) := by decide +kernel
theorem dX8_goThroughAll_13 : decode cX8_goThroughAll 13 = .ok (.getfield 51, 3) := by decide +kernel
theorem dX8_goThroughAll_16 : decode cX8_goThroughAll 16 = .ok (.imul, 1) := by decide +kernel
theorem dX8_goThroughAll_17 : decode cX8_goThroughAll 17 = .ok (.if_icmp .ge 35, 3) := by decide +kernel
theorem dX8_goThroughAll_20 : decode cX8_goThroughAll 20 = .ok (.aload_n 1, 1) := by decide +kernel
theorem dX8_goThroughAll_21 : decode cX8_goThroughAll 21 = .ok (.iload_n 3, 1) := by decide +kernel
theorem dX8_goThroughAll_22 : decode cX8_goThroughAll 22 = .ok (.invokevirtual 54, 3) := by decide +kernel
theorem dX8_goThroughAll_25 : decode cX8_goThroughAll 25 = .ok (.ifCond .eq 21, 3) := by decide +kernel
theorem dX8_goThroughAll_28 : decode cX8_goThroughAll 28 = .ok (.aload_n 0, 1) := by decide +kernel
theorem dX8_goThroughAll_29 : decode cX8_goThroughAll 29 = .ok (.getfield 31, 3) := by decide +kernel
theorem dX8_goThroughAll_32 : decode cX8_goThroughAll 32 = .ok (.getfield 58, 3) := by decide +kernel
theorem dX8_goThroughAll_35 : decode cX8_goThroughAll 35 = .ok (.iload_n 3, 1) := by decide +kernel
theorem dX8_goThroughAll_36 : decode cX8_goThroughAll 36 = .ok (.iconst 4, 1) := by decide +kernel
theorem dX8_goThroughAll_37 : decode cX8_goThroughAll 37 = .ok (.idiv, 1) := by decide +kernel
theorem dX8_goThroughAll_38 : decode cX8_goThroughAll 38 = .ok (.aaload, 1) := by decide +kernel
theorem dX8_goThroughAll_39 : decode cX8_goThroughAll 39 = .ok (.iload_n 3, 1) := by decide +kernel
theorem dX8_goThroughAll_40 : decode cX8_goThroughAll 40 = .ok (.iconst 4, 1) := by decide +kernel
theorem dX8_goThroughAll_41 : decode cX8_goThroughAll 41 = .ok (.irem, 1) := by decide +kernel
theorem dX8_goThroughAll_42 : decode cX8_goThroughAll 42 = .ok (.iload_n 2, 1) := by decide +kernel
theorem dX8_goThroughAll_43 : decode cX8_goThroughAll 43 = .ok (.invokevirtual 62, 3) := by decide +kernel
theorem dX8_goThroughAll_46 : decode cX8_goThroughAll 46 = .ok (.iinc 3 1, 3) := by decide +kernel
theorem dX8_goThroughAll_49 : decode cX8_goThroughAll 49 = .ok (.goto (-39), 3) := by decide +kernel
theorem dX8_goThroughAll_52 : decode cX8_goThroughAll 52 = .ok (.aload_n 0, 1) := by decide +kernel
theorem dX8_goThroughAll_53 : decode cX8_goThroughAll 53 = .ok (.aload_n 0, 1) := by decide +kernel
theorem dX8_goThroughAll_54 : decode cX8_goThroughAll 54 = .ok (.getfield 31, 3) := by decide +kernel
theorem dX8_goThroughAll_57 : decode cX8_goThroughAll 57 = .ok (.aload_n 0, 1) := by decide +kernel
theorem dX8_goThroughAll_58 : decode cX8_goThroughAll 58 = .ok (.getfield 31, 3) := by decide +kernel
theorem dX8_goThroughAll_61 : decode cX8_goThroughAll 61 = .ok (.invokevirtual 39, 3) := by decide +kernel
theorem dX8_goThroughAll_64 : decode cX8_goThroughAll 64 = .ok (.iload_n 2, 1) := by decide +kernel
theorem dX8_goThroughAll_65 : decode cX8_goThroughAll 65 = .ok (.invokevirtual 68, 3) := by decide +kernel
theorem dX8_goThroughAll_68 : decode cX8_goThroughAll 68 = .ok (.return_, 1) := by decide +kernel
theorem dX8_goThroughSome_0 : decode cX8_goThroughSome 0 = .ok (.iconst 0, 1) := by decide +kernel
theorem dX8_goThroughSome_1 : decode cX8_goThroughSome 1 = .ok (.istore 4, 2) := by decide +kernel
theorem dX8_goThroughSome_3 : decode cX8_goThroughSome 3 = .ok (.iload 4, 2) := by decide +kernel
theorem dX8_goThroughSome_5 : decode cX8_goThroughSome 5 = .ok (.bipush 6, 2) := by decide +kernel
theorem dX8_goThroughSome_7 : decode cX8_goThroughSome 7 = .ok (.if_icmp .ge 17, 3) := by decide +kernel
theorem dX8_goThroughSome_10 : decode cX8_goThroughSome 10 = .ok (.aload_n 0, 1) := by decide +kernel
theorem dX8_goThroughSome_11 : decode cX8_goThroughSome 11 = .ok (.getfield 18, 3) := by decide +kernel
theorem dX8_goThroughSome_14 : decode cX8_goThroughSome 14 = .ok (.iload 4, 2) := by decide +kernel
theorem dX8_goThroughSome_16 : decode cX8_goThroughSome 16 = .ok (.iconst 0, 1) := by decide +kernel
theorem dX8_goThroughSome_17 : decode cX8_goThroughSome 17 = .ok (.iastore, 1) := by decide +kernel
theorem dX8_goThroughSome_18 : decode cX8_goThroughSome 18 = .ok (.iinc 4 1, 3) := by decide +kernel
theorem dX8_goThroughSome_21 : decode cX8_goThroughSome 21 = .ok (.goto (-18), 3) := by decide +kernel
theorem dX8_goThroughSome_24 : decode cX8_goThroughSome 24 = .ok (.aload_n 0, 1) := by decide +kernel
theorem dX8_goThroughSome_25 : decode cX8_goThroughSome 25 = .ok (.aload_n 1, 1) := by decide +kernel
theorem dX8_goThroughSome_26 : decode cX8_goThroughSome 26 = .ok (.iload_n 2, 1) := by decide +kernel
theorem dX8_goThroughSome_27 : decode cX8_goThroughSome 27 = .ok (.iload_n 3, 1) := by decide +kernel
theorem dX8_goThroughSome_28 : decode cX8_goThroughSome 28 = .ok (.invokevirtual 43, 3) := by decide +kernel
theorem dX8_goThroughSome_31 : decode cX8_goThroughSome 31 = .ok (.return_, 1) := by decide +kernel
theorem dX8_setOpenLegs_0 : decode cX8_setOpenLegs 0 = .ok (.iload_n 2, 1) := by decide +kernel
theorem dX8_setOpenLegs_1 : decode cX8_setOpenLegs 1 = .ok (.istore_n 3, 1) := by decide +kernel
theorem dX8_setOpenLegs_2 : decode cX8_setOpenLegs 2 = .ok (.iconst 0, 1) := by decide +kernel
theorem dX8_setOpenLegs_3 : decode cX8_setOpenLegs 3 = .ok (.istore 4, 2) := by decide +kernel
theorem dX8_setOpenLegs_5 : decode cX8_setOpenLegs 5 = .ok (.iload 4, 2) := by decide +kernel
theorem dX8_setOpenLegs_7 : decode cX8_setOpenLegs 7 = .ok (.aload_n 1, 1) := by decide +kernel
theorem dX8_setOpenLegs_8 : decode cX8_setOpenLegs 8 = .ok (.getfield 51, 3) := by decide +kernel
theorem dX8_setOpenLegs_11 : decode cX8_setOpenLegs 11 = .ok (.if_icmp .ge 75, 3) := by decide +kernel
theorem dX8_setOpenLegs_14 : decode cX8_setOpenLegs 14 = .ok (.aload_n 0, 1) := by decide +kernel
theorem dX8_setOpenLegs_15 : decode cX8_setOpenLegs 15 = .ok (.getfield 18, 3) := by decide +kernel
theorem dX8_setOpenLegs_18 : decode cX8_setOpenLegs 18 = .ok (.iload 4, 2) := by decide +kernel
theorem dX8_setOpenLegs_20 : decode cX8_setOpenLegs 20 = .ok (.iconst 0, 1) := by decide +kernel
theorem dX8_setOpenLegs_21 : decode cX8_setOpenLegs 21 = .ok (.iastore, 1) := by decide +kernel
theorem dX8_setOpenLegs_22 : decode cX8_setOpenLegs 22 = .ok (.iconst 0, 1) := by decide +kernel
theorem dX8_setOpenLegs_23 : decode cX8_setOpenLegs 23 = .ok (.istore 5, 2) := by decide +kernel
theorem dX8_setOpenLegs_25 : decode cX8_setOpenLegs 25 = .ok (.iload 5, 2) := by decide +kernel
theorem dX8_setOpenLegs_27 : decode cX8_setOpenLegs 27 = .ok (.aload_n 1, 1) := by decide +kernel
theorem dX8_setOpenLegs_28 : decode cX8_setOpenLegs 28 = .ok (.getfield 58, 3) := by decide +kernel
theorem dX8_setOpenLegs_31 : decode cX8_setOpenLegs 31 = .ok (.iload 4, 2) := by decide +kernel
theorem dX8_setOpenLegs_33 : decode cX8_setOpenLegs 33 = .ok (.aaload, 1) := by decide +kernel
theorem dX8_setOpenLegs_34 : decode cX8_setOpenLegs 34 = .ok (.getfield 71, 3) := by decide +kernel
theorem dX8_setOpenLegs_37 : decode cX8_setOpenLegs 37 = .ok (.if_icmp .ge 43, 3) := by decide +kernel
theorem dX8_setOpenLegs_40 : decode cX8_setOpenLegs 40 = .ok (.aload_n 1, 1) := by decide +kernel
theorem dX8_setOpenLegs_41 : decode cX8_setOpenLegs 41 = .ok (.iconst 4, 1) := by decide +kernel
theorem dX8_setOpenLegs_42 : decode cX8_setOpenLegs 42 = .ok (.iload 4, 2) := by decide +kernel
theorem dX8_setOpenLegs_44 : decode cX8_setOpenLegs 44 = .ok (.imul, 1) := by decide +kernel
theorem dX8_setOpenLegs_45 : decode cX8_setOpenLegs 45 = .ok (.iload 5, 2) := by decide +kernel
theorem dX8_setOpenLegs_47 : decode cX8_setOpenLegs 47 = .ok (.iadd, 1) := by decide +kernel
theorem dX8_setOpenLegs_48 : decode cX8_setOpenLegs 48 = .ok (.invokevirtual 74, 3) := by decide +kernel
theorem dX8_setOpenLegs_51 : decode cX8_setOpenLegs 51 = .ok (.ifCond .ne 23, 3) := by decide +kernel
theorem dX8_setOpenLegs_54 : decode cX8_setOpenLegs 54 = .ok (.aload_n 0, 1) := by decide +kernel
theorem dX8_setOpenLegs_55 : decode cX8_setOpenLegs 55 = .ok (.getfield 18, 3) := by decide +kernel
theorem dX8_setOpenLegs_58 : decode cX8_setOpenLegs 58 = .ok (.iload 4, 2) := by decide +kernel
theorem dX8_setOpenLegs_60 : decode cX8_setOpenLegs 60 = .ok (.dup2, 1) := by decide +kernel
theorem dX8_setOpenLegs_61 : decode cX8_setOpenLegs 61 = .ok (.iaload, 1) := by decide +kernel
theorem dX8_setOpenLegs_62 : decode cX8_setOpenLegs 62 = .ok (.iload_n 3, 1) := by decide +kernel
theorem dX8_setOpenLegs_63 : decode cX8_setOpenLegs 63 = .ok (.iconst 1, 1) := by decide +kernel
theorem dX8_setOpenLegs_64 : decode cX8_setOpenLegs 64 = .ok (.iand, 1) := by decide +kernel
theorem dX8_setOpenLegs_65 : decode cX8_setOpenLegs 65 = .ok (.iload 5, 2) := by decide +kernel
theorem dX8_setOpenLegs_67 : decode cX8_setOpenLegs 67 = .ok (.ishl, 1) := by decide +kernel
theorem dX8_setOpenLegs_68 : decode cX8_setOpenLegs 68 = .ok (.ior, 1) := by decide +kernel
theorem dX8_setOpenLegs_69 : decode cX8_setOpenLegs 69 = .ok (.iastore, 1) := by decide +kernel
theorem dX8_setOpenLegs_70 : decode cX8_setOpenLegs 70 = .ok (.iload_n 3, 1) := by decide +kernel
theorem dX8_setOpenLegs_71 : decode cX8_setOpenLegs 71 = .ok (.iconst 1, 1) := by decide +kernel
theorem dX8_setOpenLegs_72 : decode cX8_setOpenLegs 72 = .ok (.ishr, 1) := by decide +kernel
theorem dX8_setOpenLegs_73 : decode cX8_setOpenLegs 73 = .ok (.istore_n 3, 1) := by decide +kernel
theorem dX8_setOpenLegs_74 : decode cX8_setOpenLegs 74 = .ok (.iinc 5 1, 3) := by decide +kernel
theorem dX8_setOpenLegs_77 : decode cX8_setOpenLegs 77 = .ok (.goto (-52), 3) := by decide +kernel
theorem dX8_setOpenLegs_80 : decode cX8_setOpenLegs 80 = .ok (.iinc 4 1, 3) := by decide +kernel
theorem dX8_setOpenLegs_83 : decode cX8_setOpenLegs 83 = .ok (.goto (-78), 3) := by decide +kernel
theorem dX8_setOpenLegs_86 : decode cX8_setOpenLegs 86 = .ok (.return_, 1) := by decide +kernel
theorem dX8_goThroughSettings_0 : decode cX8_goThroughSettings 0 = .ok (.aload_n 0, 1) := by decide +kernel
theorem dX8_goThroughSettings_1 : decode cX8_goThroughSettings 1 = .ok (.aload_n 1, 1) := by decide +kernel
theorem dX8_goThroughSettings_2 : decode cX8_goThroughSettings 2 = .ok (.iload_n 2, 1) := by decide +kernel
theorem dX8_goThroughSettings_3 : decode cX8_goThroughSettings 3 = .ok (.invokevirtual 77, 3) := by decide +kernel
theorem dX8_goThroughSettings_6 : decode cX8_goThroughSettings 6 = .ok (.aload_n 0, 1) := by decide +kernel
theorem dX8_goThroughSettings_7 : decode cX8_goThroughSettings 7 = .ok (.iconst 0, 1) := by decide +kernel
theorem dX8_goThroughSettings_8 : decode cX8_goThroughSettings 8 = .ok (.putfield 9, 3) := by decide +kernel
theorem dX8_goThroughSettings_11 : decode cX8_goThroughSettings 11 = .ok (.aload_n 0, 1) := by decide +kernel
theorem dX8_goThroughSettings_12 : decode cX8_goThroughSettings 12 = .ok (.iconst 0, 1) := by decide +kernel
theorem dX8_goThroughSettings_13 : decode cX8_goThroughSettings 13 = .ok (.putfield 15, 3) := by decide +kernel
theorem dX8_goThroughSettings_16 : decode cX8_goThroughSettings 16 = .ok (.iconst 0, 1) := by decide +kernel
theorem dX8_goThroughSettings_17 : decode cX8_goThroughSettings 17 = .ok (.istore 4, 2) := by decide +kernel
theorem dX8_goThroughSettings_19 : decode cX8_goThroughSettings 19 = .ok (.iload 4, 2) := by decide +kernel
theorem dX8_goThroughSettings_21 : decode cX8_goThroughSettings 21 = .ok (.iconst 1, 1) := by decide +kernel
theorem dX8_goThroughSettings_22 : decode cX8_goThroughSettings 22 = .ok (.aload_n 0, 1) := by decide +kernel
theorem dX8_goThroughSettings_23 : decode cX8_goThroughSettings 23 = .ok (.getfield 22, 3) := by decide +kernel
theorem dX8_goThroughSettings_26 : decode cX8_goThroughSettings 26 = .ok (.ishl, 1) := by decide +kernel
theorem dX8_goThroughSettings_27 : decode cX8_goThroughSettings 27 = .ok (.if_icmp .ge 67, 3) := by decide +kernel
theorem dX8_goThroughSettings_30 : decode cX8_goThroughSettings 30 = .ok (.iload 4, 2) := by decide +kernel
theorem dX8_goThroughSettings_32 : decode cX8_goThroughSettings 32 = .ok (.ifCond .le 13, 3) := by decide +kernel
theorem dX8_goThroughSettings_35 : decode cX8_goThroughSettings 35 = .ok (.aload_n 0, 1) := by decide +kernel
theorem dX8_goThroughSettings_36 : decode cX8_goThroughSettings 36 = .ok (.aload_n 1, 1) := by decide +kernel
theorem dX8_goThroughSettings_37 : decode cX8_goThroughSettings 37 = .ok (.iload 4, 2) := by decide +kernel
theorem dX8_goThroughSettings_39 : decode cX8_goThroughSettings 39 = .ok (.invokestatic 80, 3) := by decide +kernel
theorem dX8_goThroughSettings_42 : decode cX8_goThroughSettings 42 = .ok (.invokevirtual 86, 3) := by decide +kernel
theorem dX8_goThroughSettings_45 : decode cX8_goThroughSettings 45 = .ok (.aload_n 0, 1) := by decide +kernel
theorem dX8_goThroughSettings_46 : decode cX8_goThroughSettings 46 = .ok (.aload_n 1, 1) := by decide +kernel
theorem dX8_goThroughSettings_47 : decode cX8_goThroughSettings 47 = .ok (.iload_n 2, 1) := by decide +kernel
theorem dX8_goThroughSettings_48 : decode cX8_goThroughSettings 48 = .ok (.iload_n 3, 1) := by decide +kernel
theorem dX8_goThroughSettings_49 : decode cX8_goThroughSettings 49 = .ok (.invokevirtual 89, 3) := by decide +kernel
theorem dX8_goThroughSettings_52 : decode cX8_goThroughSettings 52 = .ok (.istore 5, 2) := by decide +kernel
theorem dX8_goThroughSettings_54 : decode cX8_goThroughSettings 54 = .ok (.aload_n 0, 1) := by decide +kernel
theorem dX8_goThroughSettings_55 : decode cX8_goThroughSettings 55 = .ok (.aload_n 0, 1) := by decide +kernel
theorem dX8_goThroughSettings_56 : decode cX8_goThroughSettings 56 = .ok (.getfield 9, 3) := by decide +kernel
theorem dX8_goThroughSettings_59 : decode cX8_goThroughSettings 59 = .ok (.iload 5, 2) := by decide +kernel
theorem dX8_goThroughSettings_61 : decode cX8_goThroughSettings 61 = .ok (.iadd, 1) := by decide +kernel
theorem dX8_goThroughSettings_62 : decode cX8_goThroughSettings 62 = .ok (.iload_n 3, 1) := by decide +kernel
theorem dX8_goThroughSettings_63 : decode cX8_goThroughSettings 63 = .ok (.invokestatic 93, 3) := by decide +kernel
theorem dX8_goThroughSettings_66 : decode cX8_goThroughSettings 66 = .ok (.putfield 9, 3) := by decide +kernel
theorem dX8_goThroughSettings_69 : decode cX8_goThroughSettings 69 = .ok (.aload_n 0, 1) := by decide +kernel
theorem dX8_goThroughSettings_70 : decode cX8_goThroughSettings 70 = .ok (.dup, 1) := by decide +kernel
theorem dX8_goThroughSettings_71 : decode cX8_goThroughSettings 71 = .ok (.getfield 15, 3) := by decide +kernel
theorem dX8_goThroughSettings_74 : decode cX8_goThroughSettings 74 = .ok (.iload 5, 2) := by decide +kernel
theorem dX8_goThroughSettings_76 : decode cX8_goThroughSettings 76 = .ok (.ifCond .ne 7, 3) := by decide +kernel
theorem dX8_goThroughSettings_79 : decode cX8_goThroughSettings 79 = .ok (.iconst 0, 1) := by decide +kernel
theorem dX8_goThroughSettings_80 : decode cX8_goThroughSettings 80 = .ok (.goto 4, 3) := by decide +kernel
theorem dX8_goThroughSettings_83 : decode cX8_goThroughSettings 83 = .ok (.iconst 1, 1) := by decide +kernel
theorem dX8_goThroughSettings_84 : decode cX8_goThroughSettings 84 = .ok (.iadd, 1) := by decide +kernel
theorem dX8_goThroughSettings_85 : decode cX8_goThroughSettings 85 = .ok (.putfield 15, 3) := by decide +kernel
theorem dX8_goThroughSettings_88 : decode cX8_goThroughSettings 88 = .ok (.iinc 4 1, 3) := by decide +kernel
theorem dX8_goThroughSettings_91 : decode cX8_goThroughSettings 91 = .ok (.goto (-72), 3) := by decide +kernel
theorem dX8_goThroughSettings_94 : decode cX8_goThroughSettings 94 = .ok (.return_, 1) := by decide +kernel
theorem dX8_chooseWires_0 : decode cX8_chooseWires 0 = .ok (.aload_n 0, 1) := by decide +kernel
theorem dX8_chooseWires_1 : decode cX8_chooseWires 1 = .ok (.iconst 0, 1) := by decide +kernel
theorem dX8_chooseWires_2 : decode cX8_chooseWires 2 = .ok (.putfield 22, 3) := by decide +kernel
theorem dX8_chooseWires_5 : decode cX8_chooseWires 5 = .ok (.iconst 0, 1) := by decide +kernel
theorem dX8_chooseWires_6 : decode cX8_chooseWires 6 = .ok (.istore_n 3, 1) := by decide +kernel
theorem dX8_chooseWires_7 : decode cX8_chooseWires 7 = .ok (.iload_n 3, 1) := by decide +kernel
theorem dX8_chooseWires_8 : decode cX8_chooseWires 8 = .ok (.aload_n 1, 1) := by decide +kernel
theorem dX8_chooseWires_9 : decode cX8_chooseWires 9 = .ok (.getfield 97, 3) := by decide +kernel
theorem dX8_chooseWires_12 : decode cX8_chooseWires 12 = .ok (.if_icmp .ge 38, 3) := by decide +kernel
theorem dX8_chooseWires_15 : decode cX8_chooseWires 15 = .ok (.aload_n 1, 1) := by decide +kernel
theorem dX8_chooseWires_16 : decode cX8_chooseWires 16 = .ok (.iload_n 3, 1) := by decide +kernel
theorem dX8_chooseWires_17 : decode cX8_chooseWires 17 = .ok (.iload_n 2, 1) := by decide +kernel
theorem dX8_chooseWires_18 : decode cX8_chooseWires 18 = .ok (.invokevirtual 100, 3) := by decide +kernel
theorem dX8_chooseWires_21 : decode cX8_chooseWires 21 = .ok (.ifCond .eq 23, 3) := by decide +kernel
theorem dX8_chooseWires_24 : decode cX8_chooseWires 24 = .ok (.aload_n 0, 1) := by decide +kernel
theorem dX8_chooseWires_25 : decode cX8_chooseWires 25 = .ok (.getfield 25, 3) := by decide +kernel
theorem dX8_chooseWires_28 : decode cX8_chooseWires 28 = .ok (.aload_n 0, 1) := by decide +kernel
theorem dX8_chooseWires_29 : decode cX8_chooseWires 29 = .ok (.getfield 22, 3) := by decide +kernel
theorem dX8_chooseWires_32 : decode cX8_chooseWires 32 = .ok (.iload_n 3, 1) := by decide +kernel
theorem dX8_chooseWires_33 : decode cX8_chooseWires 33 = .ok (.iastore, 1) := by decide +kernel
theorem dX8_chooseWires_34 : decode cX8_chooseWires 34 = .ok (.aload_n 0, 1) := by decide +kernel
theorem dX8_chooseWires_35 : decode cX8_chooseWires 35 = .ok (.dup, 1) := by decide +kernel
theorem dX8_chooseWires_36 : decode cX8_chooseWires 36 = .ok (.getfield 22, 3) := by decide +kernel
theorem dX8_chooseWires_39 : decode cX8_chooseWires 39 = .ok (.iconst 1, 1) := by decide +kernel
theorem dX8_chooseWires_40 : decode cX8_chooseWires 40 = .ok (.iadd, 1) := by decide +kernel
theorem dX8_chooseWires_41 : decode cX8_chooseWires 41 = .ok (.putfield 22, 3) := by decide +kernel
theorem dX8_chooseWires_44 : decode cX8_chooseWires 44 = .ok (.iinc 3 1, 3) := by decide +kernel
theorem dX8_chooseWires_47 : decode cX8_chooseWires 47 = .ok (.goto (-40), 3) := by decide +kernel
theorem dX8_chooseWires_50 : decode cX8_chooseWires 50 = .ok (.return_, 1) := by decide +kernel
theorem dX8_turnWire_0 : decode cX8_turnWire 0 = .ok (.iload_n 2, 1) := by decide +kernel
theorem dX8_turnWire_1 : decode cX8_turnWire 1 = .ok (.ifCond .lt 47, 3) := by decide +kernel
theorem dX8_turnWire_4 : decode cX8_turnWire 4 = .ok (.iload_n 2, 1) := by decide +kernel
theorem dX8_turnWire_5 : decode cX8_turnWire 5 = .ok (.aload_n 0, 1) := by decide +kernel
theorem dX8_turnWire_6 : decode cX8_turnWire 6 = .ok (.getfield 22, 3) := by decide +kernel
theorem dX8_turnWire_9 : decode cX8_turnWire 9 = .ok (.if_icmp .ge 39, 3) := by decide +kernel
theorem dX8_turnWire_12 : decode cX8_turnWire 12 = .ok (.aload_n 0, 1) := by decide +kernel
theorem dX8_turnWire_13 : decode cX8_turnWire 13 = .ok (.aload_n 1, 1) := by decide +kernel
theorem dX8_turnWire_14 : decode cX8_turnWire 14 = .ok (.getfield 104, 3) := by decide +kernel
theorem dX8_turnWire_17 : decode cX8_turnWire 17 = .ok (.iconst 2, 1) := by decide +kernel
theorem dX8_turnWire_18 : decode cX8_turnWire 18 = .ok (.aload_n 0, 1) := by decide +kernel
theorem dX8_turnWire_19 : decode cX8_turnWire 19 = .ok (.getfield 25, 3) := by decide +kernel
theorem dX8_turnWire_22 : decode cX8_turnWire 22 = .ok (.iload_n 2, 1) := by decide +kernel
theorem dX8_turnWire_23 : decode cX8_turnWire 23 = .ok (.iaload, 1) := by decide +kernel
theorem dX8_turnWire_24 : decode cX8_turnWire 24 = .ok (.imul, 1) := by decide +kernel
theorem dX8_turnWire_25 : decode cX8_turnWire 25 = .ok (.iaload, 1) := by decide +kernel
theorem dX8_turnWire_26 : decode cX8_turnWire 26 = .ok (.invokevirtual 107, 3) := by decide +kernel
theorem dX8_turnWire_29 : decode cX8_turnWire 29 = .ok (.aload_n 0, 1) := by decide +kernel
theorem dX8_turnWire_30 : decode cX8_turnWire 30 = .ok (.aload_n 1, 1) := by decide +kernel
theorem dX8_turnWire_31 : decode cX8_turnWire 31 = .ok (.getfield 104, 3) := by decide +kernel
theorem dX8_turnWire_34 : decode cX8_turnWire 34 = .ok (.iconst 2, 1) := by decide +kernel
theorem dX8_turnWire_35 : decode cX8_turnWire 35 = .ok (.aload_n 0, 1) := by decide +kernel
theorem dX8_turnWire_36 : decode cX8_turnWire 36 = .ok (.getfield 25, 3) := by decide +kernel
theorem dX8_turnWire_39 : decode cX8_turnWire 39 = .ok (.iload_n 2, 1) := by decide +kernel
theorem dX8_turnWire_40 : decode cX8_turnWire 40 = .ok (.iaload, 1) := by decide +kernel
theorem dX8_turnWire_41 : decode cX8_turnWire 41 = .ok (.imul, 1) := by decide +kernel
theorem dX8_turnWire_42 : decode cX8_turnWire 42 = .ok (.iconst 1, 1) := by decide +kernel
theorem dX8_turnWire_43 : decode cX8_turnWire 43 = .ok (.iadd, 1) := by decide +kernel
theorem dX8_turnWire_44 : decode cX8_turnWire 44 = .ok (.iaload, 1) := by decide +kernel
theorem dX8_turnWire_45 : decode cX8_turnWire 45 = .ok (.invokevirtual 107, 3) := by decide +kernel
theorem dX8_turnWire_48 : decode cX8_turnWire 48 = .ok (.return_, 1) := by decide +kernel
theorem dX8_turnLeg_0 : decode cX8_turnLeg 0 = .ok (.aload_n 0, 1) := by decide +kernel
theorem dX8_turnLeg_1 : decode cX8_turnLeg 1 = .ok (.getfield 18, 3) := by decide +kernel
theorem dX8_turnLeg_4 : decode cX8_turnLeg 4 = .ok (.iload_n 1, 1) := by decide +kernel
theorem dX8_turnLeg_5 : decode cX8_turnLeg 5 = .ok (.iconst 4, 1) := by decide +kernel
theorem dX8_turnLeg_6 : decode cX8_turnLeg 6 = .ok (.idiv, 1) := by decide +kernel
theorem dX8_turnLeg_7 : decode cX8_turnLeg 7 = .ok (.dup2, 1) := by decide +kernel
theorem dX8_turnLeg_8 : decode cX8_turnLeg 8 = .ok (.iaload, 1) := by decide +kernel
theorem dX8_turnLeg_9 : decode cX8_turnLeg 9 = .ok (.iconst 1, 1) := by decide +kernel
theorem dX8_turnLeg_10 : decode cX8_turnLeg 10 = .ok (.iload_n 1, 1) := by decide +kernel
theorem dX8_turnLeg_11 : decode cX8_turnLeg 11 = .ok (.iconst 4, 1) := by decide +kernel
theorem dX8_turnLeg_12 : decode cX8_turnLeg 12 = .ok (.irem, 1) := by decide +kernel
theorem dX8_turnLeg_13 : decode cX8_turnLeg 13 = .ok (.ishl, 1) := by decide +kernel
theorem dX8_turnLeg_14 : decode cX8_turnLeg 14 = .ok (.ixor, 1) := by decide +kernel
theorem dX8_turnLeg_15 : decode cX8_turnLeg 15 = .ok (.iastore, 1) := by decide +kernel
theorem dX8_turnLeg_16 : decode cX8_turnLeg 16 = .ok (.return_, 1) := by decide +kernel
theorem dX8_productHere_0 : decode cX8_productHere 0 = .ok (.iconst 1, 1) := by decide +kernel
theorem dX8_productHere_1 : decode cX8_productHere 1 = .ok (.istore 4, 2) := by decide +kernel
theorem dX8_productHere_3 : decode cX8_productHere 3 = .ok (.iconst 0, 1) := by decide +kernel
theorem dX8_productHere_4 : decode cX8_productHere 4 = .ok (.istore 5, 2) := by decide +kernel
theorem dX8_productHere_6 : decode cX8_productHere 6 = .ok (.iload 5, 2) := by decide +kernel
theorem dX8_productHere_8 : decode cX8_productHere 8 = .ok (.aload_n 1, 1) := by decide +kernel
theorem dX8_productHere_9 : decode cX8_productHere 9 = .ok (.getfield 51, 3) := by decide +kernel
theorem dX8_productHere_12 : decode cX8_productHere 12 = .ok (.if_icmp .ge 51, 3) := by decide +kernel
theorem dX8_productHere_15 : decode cX8_productHere 15 = .ok (.iload 4, 2) := by decide +kernel
theorem dX8_productHere_17 : decode cX8_productHere 17 = .ok (.ifCond .eq 46, 3) := by decide +kernel
theorem dX8_productHere_20 : decode cX8_productHere 20 = .ok (.iload_n 2, 1) := by decide +kernel
theorem dX8_productHere_21 : decode cX8_productHere 21 = .ok (.iload 5, 2) := by decide +kernel
theorem dX8_productHere_23 : decode cX8_productHere 23 = .ok (.ishr, 1) := by decide +kernel
theorem dX8_productHere_24 : decode cX8_productHere 24 = .ok (.iconst 1, 1) := by decide +kernel
theorem dX8_productHere_25 : decode cX8_productHere 25 = .ok (.iand, 1) := by decide +kernel
theorem dX8_productHere_26 : decode cX8_productHere 26 = .ok (.iconst 1, 1) := by decide +kernel
theorem dX8_productHere_27 : decode cX8_productHere 27 = .ok (.if_icmp .ne 30, 3) := by decide +kernel
theorem dX8_productHere_30 : decode cX8_productHere 30 = .ok (.iload 4, 2) := by decide +kernel
theorem dX8_productHere_32 : decode cX8_productHere 32 = .ok (.aload_n 1, 1) := by decide +kernel
theorem dX8_productHere_33 : decode cX8_productHere 33 = .ok (.getfield 58, 3) := by decide +kernel
theorem dX8_productHere_36 : decode cX8_productHere 36 = .ok (.iload 5, 2) := by decide +kernel
theorem dX8_productHere_38 : decode cX8_productHere 38 = .ok (.aaload, 1) := by decide +kernel
theorem dX8_productHere_39 : decode cX8_productHere 39 = .ok (.getfield 111, 3) := by decide +kernel
theorem dX8_productHere_42 : decode cX8_productHere 42 = .ok (.aload_n 0, 1) := by decide +kernel
theorem dX8_productHere_43 : decode cX8_productHere 43 = .ok (.getfield 18, 3) := by decide +kernel
theorem dX8_productHere_46 : decode cX8_productHere 46 = .ok (.iload 5, 2) := by decide +kernel
theorem dX8_productHere_48 : decode cX8_productHere 48 = .ok (.iaload, 1) := by decide +kernel
theorem dX8_productHere_49 : decode cX8_productHere 49 = .ok (.iaload, 1) := by decide +kernel
theorem dX8_productHere_50 : decode cX8_productHere 50 = .ok (.imul, 1) := by decide +kernel
theorem dX8_productHere_51 : decode cX8_productHere 51 = .ok (.iload_n 3, 1) := by decide +kernel
theorem dX8_productHere_52 : decode cX8_productHere 52 = .ok (.invokestatic 93, 3) := by decide +kernel
theorem dX8_productHere_55 : decode cX8_productHere 55 = .ok (.istore 4, 2) := by decide +kernel
theorem dX8_productHere_57 : decode cX8_productHere 57 = .ok (.iinc 5 1, 3) := by decide +kernel
theorem dX8_productHere_60 : decode cX8_productHere 60 = .ok (.goto (-54), 3) := by decide +kernel
theorem dX8_productHere_63 : decode cX8_productHere 63 = .ok (.iload 4, 2) := by decide +kernel
theorem dX8_productHere_65 : decode cX8_productHere 65 = .ok (.ireturn, 1) := by decide +kernel
theorem dX9_init_0 : decode cX9_init 0 = .ok (.aload_n 0, 1) := by decide +kernel
theorem dX9_init_1 : decode cX9_init 1 = .ok (.invokespecial 3, 3) := by decide +kernel
theorem dX9_init_4 : decode cX9_init 4 = .ok (.aload_n 0, 1) := by decide +kernel
theorem dX9_init_5 : decode cX9_init 5 = .ok (.bipush 7, 2) := by decide +kernel
theorem dX9_init_7 : decode cX9_init 7 = .ok (.putfield 9, 3) := by decide +kernel
theorem dX9_init_10 : decode cX9_init 10 = .ok (.aload_n 0, 1) := by decide +kernel
theorem dX9_init_11 : decode cX9_init 11 = .ok (.iconst 0, 1) := by decide +kernel
theorem dX9_init_12 : decode cX9_init 12 = .ok (.putfield 15, 3) := by decide +kernel
theorem dX9_init_15 : decode cX9_init 15 = .ok (.aload_n 0, 1) := by decide +kernel
theorem dX9_init_16 : decode cX9_init 16 = .ok (.bipush 8, 2) := by decide +kernel
theorem dX9_init_18 : decode cX9_init 18 = .ok (.anewarray 18, 3) := by decide +kernel
theorem dX9_init_21 : decode cX9_init 21 = .ok (.putfield 20, 3) := by decide +kernel
theorem dX9_init_24 : decode cX9_init 24 = .ok (.aload_n 0, 1) := by decide +kernel
theorem dX9_init_25 : decode cX9_init 25 = .ok (.iconst 0, 1) := by decide +kernel
theorem dX9_init_26 : decode cX9_init 26 = .ok (.putfield 24, 3) := by decide +kernel
theorem dX9_init_29 : decode cX9_init 29 = .ok (.aload_n 0, 1) := by decide +kernel
theorem dX9_init_30 : decode cX9_init 30 = .ok (.iconst 5, 1) := by decide +kernel
theorem dX9_init_31 : decode cX9_init 31 = .ok (.anewarray 27, 3) := by decide +kernel
theorem dX9_init_34 : decode cX9_init 34 = .ok (.putfield 29, 3) := by decide +kernel
theorem dX9_init_37 : decode cX9_init 37 = .ok (.aload_n 0, 1) := by decide +kernel
theorem dX9_init_38 : decode cX9_init 38 = .ok (.new 33, 3) := by decide +kernel
theorem dX9_init_41 : decode cX9_init 41 = .ok (.dup, 1) := by decide +kernel
theorem dX9_init_42 : decode cX9_init 42 = .ok (.invokespecial 35, 3) := by decide +kernel
theorem dX9_init_45 : decode cX9_init 45 = .ok (.putfield 36, 3) := by decide +kernel
theorem dX9_init_48 : decode cX9_init 48 = .ok (.aload_n 0, 1) := by decide +kernel
theorem dX9_init_49 : decode cX9_init 49 = .ok (.iconst 0, 1) := by decide +kernel
theorem dX9_init_50 : decode cX9_init 50 = .ok (.putfield 40, 3) := by decide +kernel
theorem dX9_init_53 : decode cX9_init 53 = .ok (.aload_n 0, 1) := by decide +kernel
theorem dX9_init_54 : decode cX9_init 54 = .ok (.bipush 19, 2) := by decide +kernel
theorem dX9_init_56 : decode cX9_init 56 = .ok (.newarray .int, 2) := by decide +kernel
theorem dX9_init_58 : decode cX9_init 58 = .ok (.putfield 43, 3) := by decide +kernel
theorem dX9_init_61 : decode cX9_init 61 = .ok (.aload_n 0, 1) := by decide +kernel
theorem dX9_init_62 : decode cX9_init 62 = .ok (.bipush 19, 2) := by decide +kernel
theorem dX9_init_64 : decode cX9_init 64 = .ok (.newarray .int, 2) := by decide +kernel
theorem dX9_init_66 : decode cX9_init 66 = .ok (.putfield 47, 3) := by decide +kernel
theorem dX9_init_69 : decode cX9_init 69 = .ok (.aload_n 0, 1) := by decide +kernel
theorem dX9_init_70 : decode cX9_init 70 = .ok (.bipush 19, 2) := by decide +kernel
theorem dX9_init_72 : decode cX9_init 72 = .ok (.newarray .int, 2) := by decide +kernel
theorem dX9_init_74 : decode cX9_init 74 = .ok (.putfield 50, 3) := by decide +kernel
theorem dX9_init_77 : decode cX9_init 77 = .ok (.iconst 0, 1) := by decide +kernel
theorem dX9_init_78 : decode cX9_init 78 = .ok (.istore_n 1, 1) := by decide +kernel
theorem dX9_init_79 : decode cX9_init 79 = .ok (.iload_n 1, 1) := by decide +kernel
theorem dX9_init_80 : decode cX9_init 80 = .ok (.bipush 8, 2) := by decide +kernel
theorem dX9_init_82 : decode cX9_init 82 = .ok (.if_icmp .ge 22, 3) := by decide +kernel
theorem dX9_init_85 : decode cX9_init 85 = .ok (.aload_n 0, 1) := by decide +kernel
theorem dX9_init_86 : decode cX9_init 86 = .ok (.getfield 20, 3) := by decide +kernel
theorem dX9_init_89 : decode cX9_init 89 = .ok (.iload_n 1, 1) := by decide +kernel
theorem dX9_init_90 : decode cX9_init 90 = .ok (.new 18, 3) := by decide +kernel
theorem dX9_init_93 : decode cX9_init 93 = .ok (.dup, 1) := by decide +kernel
theorem dX9_init_94 : decode cX9_init 94 = .ok (.invokespecial 53, 3) := by decide +kernel
theorem dX9_init_97 : decode cX9_init 97 = .ok (.aastore, 1) := by decide +kernel
theorem dX9_init_98 : decode cX9_init 98 = .ok (.iinc 1 1, 3) := by decide +kernel
theorem dX9_init_101 : decode cX9_init 101 = .ok (.goto (-22), 3) := by decide +kernel
theorem dX9_init_104 : decode cX9_init 104 = .ok (.iconst 0, 1) := by decide +kernel
theorem dX9_init_105 : decode cX9_init 105 = .ok (.istore_n 1, 1) := by decide +kernel
theorem dX9_init_106 : decode cX9_init 106 = .ok (.iload_n 1, 1) := by decide +kernel
theorem dX9_init_107 : decode cX9_init 107 = .ok (.iconst 5, 1) := by decide +kernel
theorem dX9_init_108 : decode cX9_init 108 = .ok (.if_icmp .ge 22, 3) := by decide +kernel
theorem dX9_init_111 : decode cX9_init 111 = .ok (.aload_n 0, 1) := by decide +kernel
theorem dX9_init_112 : decode cX9_init 112 = .ok (.getfield 29, 3) := by decide +kernel
theorem dX9_init_115 : decode cX9_init 115 = .ok (.iload_n 1, 1) := by decide +kernel
theorem dX9_init_116 : decode cX9_init 116 = .ok (.new 27, 3) := by decide +kernel
theorem dX9_init_119 : decode cX9_init 119 = .ok (.dup, 1) := by decide +kernel
theorem dX9_init_120 : decode cX9_init 120 = .ok (.invokespecial 54, 3) := by decide +kernel
theorem dX9_init_123 : decode cX9_init 123 = .ok (.aastore, 1) := by decide +kernel
theorem dX9_init_124 : decode cX9_init 124 = .ok (.iinc 1 1, 3) := by decide +kernel
theorem dX9_init_127 : decode cX9_init 127 = .ok (.goto (-21), 3) := by decide +kernel
theorem dX9_init_130 : decode cX9_init 130 = .ok (.return_, 1) := by decide +kernel
theorem dX9_clear_0 : decode cX9_clear 0 = .ok (.aload_n 0, 1) := by decide +kernel
theorem dX9_clear_1 : decode cX9_clear 1 = .ok (.bipush 7, 2) := by decide +kernel
theorem dX9_clear_3 : decode cX9_clear 3 = .ok (.putfield 9, 3) := by decide +kernel
theorem dX9_clear_6 : decode cX9_clear 6 = .ok (.aload_n 0, 1) := by decide +kernel
theorem dX9_clear_7 : decode cX9_clear 7 = .ok (.iconst 0, 1) := by decide +kernel
theorem dX9_clear_8 : decode cX9_clear 8 = .ok (.putfield 15, 3) := by decide +kernel
theorem dX9_clear_11 : decode cX9_clear 11 = .ok (.aload_n 0, 1) := by decide +kernel
theorem dX9_clear_12 : decode cX9_clear 12 = .ok (.iconst 0, 1) := by decide +kernel
theorem dX9_clear_13 : decode cX9_clear 13 = .ok (.putfield 24, 3) := by decide +kernel
theorem dX9_clear_16 : decode cX9_clear 16 = .ok (.aload_n 0, 1) := by decide +kernel
theorem dX9_clear_17 : decode cX9_clear 17 = .ok (.iconst 0, 1) := by decide +kernel
theorem dX9_clear_18 : decode cX9_clear 18 = .ok (.putfield 40, 3) := by decide +kernel
theorem dX9_clear_21 : decode cX9_clear 21 = .ok (.aload_n 0, 1) := by decide +kernel
theorem dX9_clear_22 : decode cX9_clear 22 = .ok (.getfield 36, 3) := by decide +kernel
theorem dX9_clear_25 : decode cX9_clear 25 = .ok (.iconst 0, 1) := by decide +kernel
theorem dX9_clear_26 : decode cX9_clear 26 = .ok (.putfield 55, 3) := by decide +kernel
theorem dX9_clear_29 : decode cX9_clear 29 = .ok (.aload_n 0, 1) := by decide +kernel
theorem dX9_clear_30 : decode cX9_clear 30 = .ok (.getfield 36, 3) := by decide +kernel
theorem dX9_clear_33 : decode cX9_clear 33 = .ok (.iconst 0, 1) := by decide +kernel
theorem dX9_clear_34 : decode cX9_clear 34 = .ok (.putfield 58, 3) := by decide +kernel
theorem dX9_clear_37 : decode cX9_clear 37 = .ok (.return_, 1) := by decide +kernel
theorem dX9_addName_0 : decode cX9_addName 0 = .ok (.aload_n 0, 1) := by decide +kernel
theorem dX9_addName_1 : decode cX9_addName 1 = .ok (.getfield 40, 3) := by decide +kernel
theorem dX9_addName_4 : decode cX9_addName 4 = .ok (.bipush 19, 2) := by decide +kernel
theorem dX9_addName_6 : decode cX9_addName 6 = .ok (.if_icmp .ge 43, 3) := by decide +kernel
theorem dX9_addName_9 : decode cX9_addName 9 = .ok (.aload_n 0, 1) := by decide +kernel
theorem dX9_addName_10 : decode cX9_addName 10 = .ok (.getfield 43, 3) := by decide +kernel
theorem dX9_addName_13 : decode cX9_addName 13 = .ok (.aload_n 0, 1) := by decide +kernel
theorem dX9_addName_14 : decode cX9_addName 14 = .ok (.getfield 40, 3) := by decide +kernel
theorem dX9_addName_17 : decode cX9_addName 17 = .ok (.iload_n 1, 1) := by decide +kernel
theorem dX9_addName_18 : decode cX9_addName 18 = .ok (.iastore, 1) := by decide +kernel
theorem dX9_addName_19 : decode cX9_addName 19 = .ok (.aload_n 0, 1) := by decide +kernel
theorem dX9_addName_20 : decode cX9_addName 20 = .ok (.getfield 47, 3) := by decide +kernel
theorem dX9_addName_23 : decode cX9_addName 23 = .ok (.aload_n 0, 1) := by decide +kernel
theorem dX9_addName_24 : decode cX9_addName 24 = .ok (.getfield 40, 3) := by decide +kernel
theorem dX9_addName_27 : decode cX9_addName 27 = .ok (.iload_n 2, 1) := by decide +kernel
theorem dX9_addName_28 : decode cX9_addName 28 = .ok (.iastore, 1) := by decide +kernel
theorem dX9_addName_29 : decode cX9_addName 29 = .ok (.aload_n 0, 1) := by decide +kernel
theorem dX9_addName_30 : decode cX9_addName 30 = .ok (.getfield 50, 3) := by decide +kernel
theorem dX9_addName_33 : decode cX9_addName 33 = .ok (.aload_n 0, 1) := by decide +kernel
theorem dX9_addName_34 : decode cX9_addName 34 = .ok (.getfield 40, 3) := by decide +kernel
theorem dX9_addName_37 : decode cX9_addName 37 = .ok (.iload_n 3, 1) := by decide +kernel
theorem dX9_addName_38 : decode cX9_addName 38 = .ok (.iastore, 1) := by decide +kernel
theorem dX9_addName_39 : decode cX9_addName 39 = .ok (.aload_n 0, 1) := by decide +kernel
theorem dX9_addName_40 : decode cX9_addName 40 = .ok (.dup, 1) := by decide +kernel
theorem dX9_addName_41 : decode cX9_addName 41 = .ok (.getfield 40, 3) := by decide +kernel
theorem dX9_addName_44 : decode cX9_addName 44 = .ok (.iconst 1, 1) := by decide +kernel
theorem dX9_addName_45 : decode cX9_addName 45 = .ok (.iadd, 1) := by decide +kernel
theorem dX9_addName_46 : decode cX9_addName 46 = .ok (.putfield 40, 3) := by decide +kernel
theorem dX9_addName_49 : decode cX9_addName 49 = .ok (.return_, 1) := by decide +kernel
theorem dX9_hasName_0 : decode cX9_hasName 0 = .ok (.iconst 0, 1) := by decide +kernel
theorem dX9_hasName_1 : decode cX9_hasName 1 = .ok (.istore_n 2, 1) := by decide +kernel
theorem dX9_hasName_2 : decode cX9_hasName 2 = .ok (.iload_n 2, 1) := by decide +kernel
theorem dX9_hasName_3 : decode cX9_hasName 3 = .ok (.aload_n 0, 1) := by decide +kernel
theorem dX9_hasName_4 : decode cX9_hasName 4 = .ok (.getfield 40, 3) := by decide +kernel
theorem dX9_hasName_7 : decode cX9_hasName 7 = .ok (.if_icmp .ge 21, 3) := by decide +kernel
theorem dX9_hasName_10 : decode cX9_hasName 10 = .ok (.aload_n 0, 1) := by decide +kernel
theorem dX9_hasName_11 : decode cX9_hasName 11 = .ok (.getfield 43, 3) := by decide +kernel
theorem dX9_hasName_14 : decode cX9_hasName 14 = .ok (.iload_n 2, 1) := by decide +kernel
theorem dX9_hasName_15 : decode cX9_hasName 15 = .ok (.iaload, 1) := by decide +kernel
theorem dX9_hasName_16 : decode cX9_hasName 16 = .ok (.iload_n 1, 1) := by decide +kernel
theorem dX9_hasName_17 : decode cX9_hasName 17 = .ok (.if_icmp .ne 5, 3) := by decide +kernel
theorem dX9_hasName_20 : decode cX9_hasName 20 = .ok (.iconst 1, 1) := by decide +kernel
theorem dX9_hasName_21 : decode cX9_hasName 21 = .ok (.ireturn, 1) := by decide +kernel
theorem dX9_hasName_22 : decode cX9_hasName 22 = .ok (.iinc 2 1, 3) := by decide +kernel
theorem dX9_hasName_25 : decode cX9_hasName 25 = .ok (.goto (-23), 3) := by decide +kernel
theorem dX9_hasName_28 : decode cX9_hasName 28 = .ok (.iconst 0, 1) := by decide +kernel
theorem dX9_hasName_29 : decode cX9_hasName 29 = .ok (.ireturn, 1) := by decide +kernel
theorem dX9_numberOf_0 : decode cX9_numberOf 0 = .ok (.iconst 0, 1) := by decide +kernel
theorem dX9_numberOf_1 : decode cX9_numberOf 1 = .ok (.istore_n 3, 1) := by decide +kernel
theorem dX9_numberOf_2 : decode cX9_numberOf 2 = .ok (.iload_n 3, 1) := by decide +kernel
theorem dX9_numberOf_3 : decode cX9_numberOf 3 = .ok (.aload_n 0, 1) := by decide +kernel
theorem dX9_numberOf_4 : decode cX9_numberOf 4 = .ok (.getfield 40, 3) := by decide +kernel
theorem dX9_numberOf_7 : decode cX9_numberOf 7 = .ok (.if_icmp .ge 36, 3) := by decide +kernel
theorem dX9_numberOf_10 : decode cX9_numberOf 10 = .ok (.aload_n 0, 1) := by decide +kernel
theorem dX9_numberOf_11 : decode cX9_numberOf 11 = .ok (.getfield 43, 3) := by decide +kernel
theorem dX9_numberOf_14 : decode cX9_numberOf 14 = .ok (.iload_n 3, 1) := by decide +kernel
theorem dX9_numberOf_15 : decode cX9_numberOf 15 = .ok (.iaload, 1) := by decide +kernel
theorem dX9_numberOf_16 : decode cX9_numberOf 16 = .ok (.iload_n 1, 1) := by decide +kernel
theorem dX9_numberOf_17 : decode cX9_numberOf 17 = .ok (.if_icmp .ne 20, 3) := by decide +kernel
theorem dX9_numberOf_20 : decode cX9_numberOf 20 = .ok (.aload_n 0, 1) := by decide +kernel
theorem dX9_numberOf_21 : decode cX9_numberOf 21 = .ok (.getfield 47, 3) := by decide +kernel
theorem dX9_numberOf_24 : decode cX9_numberOf 24 = .ok (.iload_n 3, 1) := by decide +kernel
theorem dX9_numberOf_25 : decode cX9_numberOf 25 = .ok (.iaload, 1) := by decide +kernel
theorem dX9_numberOf_26 : decode cX9_numberOf 26 = .ok (.iload_n 2, 1) := by decide +kernel
theorem dX9_numberOf_27 : decode cX9_numberOf 27 = .ok (.if_icmp .ne 10, 3) := by decide +kernel
theorem dX9_numberOf_30 : decode cX9_numberOf 30 = .ok (.aload_n 0, 1) := by decide +kernel
theorem dX9_numberOf_31 : decode cX9_numberOf 31 = .ok (.getfield 50, 3) := by decide +kernel
theorem dX9_numberOf_34 : decode cX9_numberOf 34 = .ok (.iload_n 3, 1) := by decide +kernel
theorem dX9_numberOf_35 : decode cX9_numberOf 35 = .ok (.iaload, 1) := by decide +kernel
theorem dX9_numberOf_36 : decode cX9_numberOf 36 = .ok (.ireturn, 1) := by decide +kernel
theorem dX9_numberOf_37 : decode cX9_numberOf 37 = .ok (.iinc 3 1, 3) := by decide +kernel
theorem dX9_numberOf_40 : decode cX9_numberOf 40 = .ok (.goto (-38), 3) := by decide +kernel
theorem dX9_numberOf_43 : decode cX9_numberOf 43 = .ok (.iconst (-1), 1) := by decide +kernel
theorem dX9_numberOf_44 : decode cX9_numberOf 44 = .ok (.ireturn, 1) := by decide +kernel
theorem dX10_init_0 : decode cX10_init 0 = .ok (.aload_n 0, 1) := by decide +kernel
theorem dX10_init_1 : decode cX10_init 1 = .ok (.invokespecial 3, 3) := by decide +kernel
theorem dX10_init_4 : decode cX10_init 4 = .ok (.aload_n 0, 1) := by decide +kernel
theorem dX10_init_5 : decode cX10_init 5 = .ok (.sipush 700, 3) := by decide +kernel
theorem dX10_init_8 : decode cX10_init 8 = .ok (.newarray .byte, 2) := by decide +kernel
theorem dX10_init_10 : decode cX10_init 10 = .ok (.putfield 9, 3) := by decide +kernel
theorem dX10_init_13 : decode cX10_init 13 = .ok (.aload_n 0, 1) := by decide +kernel
theorem dX10_init_14 : decode cX10_init 14 = .ok (.iconst 0, 1) := by decide +kernel
theorem dX10_init_15 : decode cX10_init 15 = .ok (.putfield 13, 3) := by decide +kernel
theorem dX10_init_18 : decode cX10_init 18 = .ok (.aload_n 0, 1) := by decide +kernel
theorem dX10_init_19 : decode cX10_init 19 = .ok (.new 17, 3) := by decide +kernel
theorem dX10_init_22 : decode cX10_init 22 = .ok (.dup, 1) := by decide +kernel
theorem dX10_init_23 : decode cX10_init 23 = .ok (.invokespecial 19, 3) := by decide +kernel
theorem dX10_init_26 : decode cX10_init 26 = .ok (.putfield 20, 3) := by decide +kernel
theorem dX10_init_29 : decode cX10_init 29 = .ok (.aload_n 0, 1) := by decide +kernel
theorem dX10_init_30 : decode cX10_init 30 = .ok (.new 17, 3) := by decide +kernel
theorem dX10_init_33 : decode cX10_init 33 = .ok (.dup, 1) := by decide +kernel
theorem dX10_init_34 : decode cX10_init 34 = .ok (.invokespecial 19, 3) := by decide +kernel
theorem dX10_init_37 : decode cX10_init 37 = .ok (.putfield 24, 3) := by decide +kernel
theorem dX10_init_40 : decode cX10_init 40 = .ok (.aload_n 0, 1) := by decide +kernel
theorem dX10_init_41 : decode cX10_init 41 = .ok (.new 27, 3) := by decide +kernel
theorem dX10_init_44 : decode cX10_init 44 = .ok (.dup, 1) := by decide +kernel
theorem dX10_init_45 : decode cX10_init 45 = .ok (.invokespecial 29, 3) := by decide +kernel
theorem dX10_init_48 : decode cX10_init 48 = .ok (.putfield 30, 3) := by decide +kernel
theorem dX10_init_51 : decode cX10_init 51 = .ok (.aload_n 0, 1) := by decide +kernel
theorem dX10_init_52 : decode cX10_init 52 = .ok (.new 34, 3) := by decide +kernel
theorem dX10_init_55 : decode cX10_init 55 = .ok (.dup, 1) := by decide +kernel
theorem dX10_init_56 : decode cX10_init 56 = .ok (.invokespecial 36, 3) := by decide +kernel
theorem dX10_init_59 : decode cX10_init 59 = .ok (.putfield 37, 3) := by decide +kernel
theorem dX10_init_62 : decode cX10_init 62 = .ok (.aload_n 0, 1) := by decide +kernel
theorem dX10_init_63 : decode cX10_init 63 = .ok (.iconst 2, 1) := by decide +kernel
theorem dX10_init_64 : decode cX10_init 64 = .ok (.anewarray 27, 3) := by decide +kernel
theorem dX10_init_67 : decode cX10_init 67 = .ok (.putfield 41, 3) := by decide +kernel
theorem dX10_init_70 : decode cX10_init 70 = .ok (.aload_n 0, 1) := by decide +kernel
theorem dX10_init_71 : decode cX10_init 71 = .ok (.iconst 2, 1) := by decide +kernel
theorem dX10_init_72 : decode cX10_init 72 = .ok (.newarray .boolean, 2) := by decide +kernel
theorem dX10_init_74 : decode cX10_init 74 = .ok (.putfield 45, 3) := by decide +kernel
theorem dX10_init_77 : decode cX10_init 77 = .ok (.aload_n 0, 1) := by decide +kernel
theorem dX10_init_78 : decode cX10_init 78 = .ok (.new 49, 3) := by decide +kernel
theorem dX10_init_81 : decode cX10_init 81 = .ok (.dup, 1) := by decide +kernel
theorem dX10_init_82 : decode cX10_init 82 = .ok (.invokespecial 51, 3) := by decide +kernel
theorem dX10_init_85 : decode cX10_init 85 = .ok (.putfield 52, 3) := by decide +kernel
theorem dX10_init_88 : decode cX10_init 88 = .ok (.aload_n 0, 1) := by decide +kernel
theorem dX10_init_89 : decode cX10_init 89 = .ok (.new 56, 3) := by decide +kernel
theorem dX10_init_92 : decode cX10_init 92 = .ok (.dup, 1) := by decide +kernel
theorem dX10_init_93 : decode cX10_init 93 = .ok (.invokespecial 58, 3) := by decide +kernel
theorem dX10_init_96 : decode cX10_init 96 = .ok (.putfield 59, 3) := by decide +kernel
theorem dX10_init_99 : decode cX10_init 99 = .ok (.aload_n 0, 1) := by decide +kernel
theorem dX10_init_100 : decode cX10_init 100 = .ok (.new 63, 3) := by decide +kernel
theorem dX10_init_103 : decode cX10_init 103 = .ok (.dup, 1) := by decide +kernel
theorem dX10_init_104 : decode cX10_init 104 = .ok (.invokespecial 65, 3) := by decide +kernel
theorem dX10_init_107 : decode cX10_init 107 = .ok (.putfield 66, 3) := by decide +kernel
theorem dX10_init_110 : decode cX10_init 110 = .ok (.aload_n 0, 1) := by decide +kernel
theorem dX10_init_111 : decode cX10_init 111 = .ok (.new 70, 3) := by decide +kernel
theorem dX10_init_114 : decode cX10_init 114 = .ok (.dup, 1) := by decide +kernel
theorem dX10_init_115 : decode cX10_init 115 = .ok (.invokespecial 72, 3) := by decide +kernel
theorem dX10_init_118 : decode cX10_init 118 = .ok (.putfield 73, 3) := by decide +kernel
theorem dX10_init_121 : decode cX10_init 121 = .ok (.aload_n 0, 1) := by decide +kernel
theorem dX10_init_122 : decode cX10_init 122 = .ok (.new 77, 3) := by decide +kernel
theorem dX10_init_125 : decode cX10_init 125 = .ok (.dup, 1) := by decide +kernel
theorem dX10_init_126 : decode cX10_init 126 = .ok (.invokespecial 79, 3) := by decide +kernel
theorem dX10_init_129 : decode cX10_init 129 = .ok (.putfield 80, 3) := by decide +kernel
theorem dX10_init_132 : decode cX10_init 132 = .ok (.aload_n 0, 1) := by decide +kernel
theorem dX10_init_133 : decode cX10_init 133 = .ok (.new 84, 3) := by decide +kernel
theorem dX10_init_136 : decode cX10_init 136 = .ok (.dup, 1) := by decide +kernel
theorem dX10_init_137 : decode cX10_init 137 = .ok (.invokespecial 86, 3) := by decide +kernel
theorem dX10_init_140 : decode cX10_init 140 = .ok (.putfield 87, 3) := by decide +kernel
theorem dX10_init_143 : decode cX10_init 143 = .ok (.iconst 0, 1) := by decide +kernel
theorem dX10_init_144 : decode cX10_init 144 = .ok (.istore_n 1, 1) := by decide +kernel
theorem dX10_init_145 : decode cX10_init 145 = .ok (.iload_n 1, 1) := by decide +kernel
theorem dX10_init_146 : decode cX10_init 146 = .ok (.iconst 2, 1) := by decide +kernel
theorem dX10_init_147 : decode cX10_init 147 = .ok (.if_icmp .ge 22, 3) := by decide +kernel
theorem dX10_init_150 : decode cX10_init 150 = .ok (.aload_n 0, 1) := by decide +kernel
theorem dX10_init_151 : decode cX10_init 151 = .ok (.getfield 41, 3) := by decide +kernel
theorem dX10_init_154 : decode cX10_init 154 = .ok (.iload_n 1, 1) := by decide +kernel
theorem dX10_init_155 : decode cX10_init 155 = .ok (.new 27, 3) := by decide +kernel
theorem dX10_init_158 : decode cX10_init 158 = .ok (.dup, 1) := by decide +kernel
theorem dX10_init_159 : decode cX10_init 159 = .ok (.invokespecial 29, 3) := by decide +kernel
theorem dX10_init_162 : decode cX10_init 162 = .ok (.aastore, 1) := by decide +kernel
theorem dX10_init_163 : decode cX10_init 163 = .ok (.iinc 1 1, 3) := by decide +kernel
theorem dX10_init_166 : decode cX10_init 166 = .ok (.goto (-21), 3) := by decide +kernel
theorem dX10_init_169 : decode cX10_init 169 = .ok (.return_, 1) := by decide +kernel
theorem dX10_feed_0 : decode cX10_feed 0 = .ok (.aload_n 0, 1) := by decide +kernel
theorem dX10_feed_1 : decode cX10_feed 1 = .ok (.getfield 13, 3) := by decide +kernel
theorem dX10_feed_4 : decode cX10_feed 4 = .ok (.sipush 680, 3) := by decide +kernel
theorem dX10_feed_7 : decode cX10_feed 7 = .ok (.if_icmp .le 5, 3) := by decide +kernel
theorem dX10_feed_10 : decode cX10_feed 10 = .ok (.iconst (-1), 1) := by decide +kernel
theorem dX10_feed_11 : decode cX10_feed 11 = .ok (.ireturn, 1) := by decide +kernel
theorem dX10_feed_12 : decode cX10_feed 12 = .ok (.aload_n 0, 1) := by decide +kernel
theorem dX10_feed_13 : decode cX10_feed 13 = .ok (.iload_n 1, 1) := by decide +kernel
theorem dX10_feed_14 : decode cX10_feed 14 = .ok (.invokevirtual 91, 3) := by decide +kernel
theorem dX10_feed_17 : decode cX10_feed 17 = .ok (.aload_n 0, 1) := by decide +kernel
theorem dX10_feed_18 : decode cX10_feed 18 = .ok (.iload_n 2, 1) := by decide +kernel
theorem dX10_feed_19 : decode cX10_feed 19 = .ok (.invokevirtual 91, 3) := by decide +kernel
theorem dX10_feed_22 : decode cX10_feed 22 = .ok (.aload_n 0, 1) := by decide +kernel
theorem dX10_feed_23 : decode cX10_feed 23 = .ok (.iload_n 3, 1) := by decide +kernel
theorem dX10_feed_24 : decode cX10_feed 24 = .ok (.invokevirtual 91, 3) := by decide +kernel
theorem dX10_feed_27 : decode cX10_feed 27 = .ok (.aload_n 0, 1) := by decide +kernel
theorem dX10_feed_28 : decode cX10_feed 28 = .ok (.iload 4, 2) := by decide +kernel
theorem dX10_feed_30 : decode cX10_feed 30 = .ok (.invokevirtual 91, 3) := by decide +kernel
theorem dX10_feed_33 : decode cX10_feed 33 = .ok (.aload_n 0, 1) := by decide +kernel
theorem dX10_feed_34 : decode cX10_feed 34 = .ok (.iload 5, 2) := by decide +kernel
theorem dX10_feed_36 : decode cX10_feed 36 = .ok (.invokevirtual 91, 3) := by decide +kernel
theorem dX10_feed_39 : decode cX10_feed 39 = .ok (.aload_n 0, 1) := by decide +kernel
theorem dX10_feed_40 : decode cX10_feed 40 = .ok (.getfield 13, 3) := by decide +kernel
theorem dX10_feed_43 : decode cX10_feed 43 = .ok (.ireturn, 1) := by decide +kernel
theorem dX10_net_0 : decode cX10_net 0 = .ok (.iload_n 1, 1) := by decide +kernel
theorem dX10_net_1 : decode cX10_net 1 = .ok (.ifCond .lt 11, 3) := by decide +kernel
theorem dX10_net_4 : decode cX10_net 4 = .ok (.iload_n 1, 1) := by decide +kernel
theorem dX10_net_5 : decode cX10_net 5 = .ok (.aload_n 0, 1) := by decide +kernel
theorem dX10_net_6 : decode cX10_net 6 = .ok (.getfield 13, 3) := by decide +kernel
theorem dX10_net_9 : decode cX10_net 9 = .ok (.if_icmp .le 5, 3) := by decide +kernel
theorem dX10_net_12 : decode cX10_net 12 = .ok (.iconst (-1), 1) := by decide +kernel
theorem dX10_net_13 : decode cX10_net 13 = .ok (.ireturn, 1) := by decide +kernel
theorem dX10_net_14 : decode cX10_net 14 = .ok (.aload_n 0, 1) := by decide +kernel
theorem dX10_net_15 : decode cX10_net 15 = .ok (.iconst 0, 1) := by decide +kernel
theorem dX10_net_16 : decode cX10_net 16 = .ok (.putfield 13, 3) := by decide +kernel
theorem dX10_net_19 : decode cX10_net 19 = .ok (.aload_n 0, 1) := by decide +kernel
theorem dX10_net_20 : decode cX10_net 20 = .ok (.getfield 52, 3) := by decide +kernel
theorem dX10_net_23 : decode cX10_net 23 = .ok (.aload_n 0, 1) := by decide +kernel
theorem dX10_net_24 : decode cX10_net 24 = .ok (.getfield 9, 3) := by decide +kernel
theorem dX10_net_27 : decode cX10_net 27 = .ok (.iload_n 1, 1) := by decide +kernel
theorem dX10_net_28 : decode cX10_net 28 = .ok (.aload_n 0, 1) := by decide +kernel
theorem dX10_net_29 : decode cX10_net 29 = .ok (.getfield 24, 3) := by decide +kernel
theorem dX10_net_32 : decode cX10_net 32 = .ok (.invokevirtual 95, 3) := by decide +kernel
theorem dX10_net_35 : decode cX10_net 35 = .ok (.istore_n 2, 1) := by decide +kernel
theorem dX10_net_36 : decode cX10_net 36 = .ok (.iload_n 2, 1) := by decide +kernel
theorem dX10_net_37 : decode cX10_net 37 = .ok (.ifCond .ge 5, 3) := by decide +kernel
theorem dX10_net_40 : decode cX10_net 40 = .ok (.iload_n 2, 1) := by decide +kernel
theorem dX10_net_41 : decode cX10_net 41 = .ok (.ireturn, 1) := by decide +kernel
theorem dX10_net_42 : decode cX10_net 42 = .ok (.aload_n 0, 1) := by decide +kernel
theorem dX10_net_43 : decode cX10_net 43 = .ok (.getfield 24, 3) := by decide +kernel
theorem dX10_net_46 : decode cX10_net 46 = .ok (.astore_n 3, 1) := by decide +kernel
theorem dX10_net_47 : decode cX10_net 47 = .ok (.aload_n 0, 1) := by decide +kernel
theorem dX10_net_48 : decode cX10_net 48 = .ok (.aload_n 0, 1) := by decide +kernel
theorem dX10_net_49 : decode cX10_net 49 = .ok (.getfield 20, 3) := by decide +kernel
theorem dX10_net_52 : decode cX10_net 52 = .ok (.putfield 24, 3) := by decide +kernel
theorem dX10_net_55 : decode cX10_net 55 = .ok (.aload_n 0, 1) := by decide +kernel
theorem dX10_net_56 : decode cX10_net 56 = .ok (.aload_n 3, 1) := by decide +kernel
theorem dX10_net_57 : decode cX10_net 57 = .ok (.putfield 20, 3) := by decide +kernel
theorem dX10_net_60 : decode cX10_net 60 = .ok (.aload_n 0, 1) := by decide +kernel
theorem dX10_net_61 : decode cX10_net 61 = .ok (.getfield 30, 3) := by decide +kernel
theorem dX10_net_64 : decode cX10_net 64 = .ok (.aload_n 0, 1) := by decide +kernel
theorem dX10_net_65 : decode cX10_net 65 = .ok (.getfield 20, 3) := by decide +kernel
theorem dX10_net_68 : decode cX10_net 68 = .ok (.getfield 99, 3) := by decide +kernel
theorem dX10_net_71 : decode cX10_net 71 = .ok (.invokevirtual 102, 3) := by decide +kernel
theorem dX10_net_74 : decode cX10_net 74 = .ok (.aload_n 0, 1) := by decide +kernel
theorem dX10_net_75 : decode cX10_net 75 = .ok (.getfield 37, 3) := by decide +kernel
theorem dX10_net_78 : decode cX10_net 78 = .ok (.invokevirtual 106, 3) := by decide +kernel
theorem dX10_net_81 : decode cX10_net 81 = .ok (.iconst 0, 1) := by decide +kernel
theorem dX10_net_82 : decode cX10_net 82 = .ok (.istore 4, 2) := by decide +kernel
theorem dX10_net_84 : decode cX10_net 84 = .ok (.iload 4, 2) := by decide +kernel
theorem dX10_net_86 : decode cX10_net 86 = .ok (.iconst 2, 1) := by decide +kernel
theorem dX10_net_87 : decode cX10_net 87 = .ok (.if_icmp .ge 17, 3) := by decide +kernel
theorem dX10_net_90 : decode cX10_net 90 = .ok (.aload_n 0, 1) := by decide +kernel
theorem dX10_net_91 : decode cX10_net 91 = .ok (.getfield 45, 3) := by decide +kernel
theorem dX10_net_94 : decode cX10_net 94 = .ok (.iload 4, 2) := by decide +kernel
theorem dX10_net_96 : decode cX10_net 96 = .ok (.iconst 0, 1) := by decide +kernel
theorem dX10_net_97 : decode cX10_net 97 = .ok (.bastore, 1) := by decide +kernel
theorem dX10_net_98 : decode cX10_net 98 = .ok (.iinc 4 1, 3) := by decide +kernel
theorem dX10_net_101 : decode cX10_net 101 = .ok (.goto (-17), 3) := by decide +kernel
theorem dX10_net_104 : decode cX10_net 104 = .ok (.iload_n 2, 1) := by decide +kernel
theorem dX10_net_105 : decode cX10_net 105 = .ok (.ireturn, 1) := by decide +kernel
theorem dX10_table_0 : decode cX10_table 0 = .ok (.aload_n 0, 1) := by decide +kernel
theorem dX10_table_1 : decode cX10_table 1 = .ok (.iload_n 1, 1) := by decide +kernel
theorem dX10_table_2 : decode cX10_table 2 = .ok (.invokevirtual 109, 3) := by decide +kernel
theorem dX10_table_5 : decode cX10_table 5 = .ok (.ifCond .ne 6, 3) := by decide +kernel
theorem dX10_table_8 : decode cX10_table 8 = .ok (.bipush (-2), 2) := by decide +kernel
theorem dX10_table_10 : decode cX10_table 10 = .ok (.ireturn, 1) := by decide +kernel
theorem dX10_table_11 : decode cX10_table 11 = .ok (.aload_n 0, 1) := by decide +kernel
theorem dX10_table_12 : decode cX10_table 12 = .ok (.getfield 20, 3) := by decide +kernel
theorem dX10_table_15 : decode cX10_table 15 = .ok (.getfield 113, 3) := by decide +kernel
theorem dX10_table_18 : decode cX10_table 18 = .ok (.iload_n 1, 1) := by decide +kernel
theorem dX10_table_19 : decode cX10_table 19 = .ok (.aaload, 1) := by decide +kernel
theorem dX10_table_20 : decode cX10_table 20 = .ok (.iload_n 2, 1) := by decide +kernel
theorem dX10_table_21 : decode cX10_table 21 = .ok (.invokestatic 117, 3) := by decide +kernel
theorem dX10_table_24 : decode cX10_table 24 = .ok (.ireturn, 1) := by decide +kernel
theorem dX10_parity_0 : decode cX10_parity 0 = .ok (.aload_n 0, 1) := by decide +kernel
theorem dX10_parity_1 : decode cX10_parity 1 = .ok (.iload_n 1, 1) := by decide +kernel
theorem dX10_parity_2 : decode cX10_parity 2 = .ok (.invokevirtual 109, 3) := by decide +kernel
theorem dX10_parity_5 : decode cX10_parity 5 = .ok (.ifCond .eq 18, 3) := by decide +kernel
theorem dX10_parity_8 : decode cX10_parity 8 = .ok (.aload_n 0, 1) := by decide +kernel
theorem dX10_parity_9 : decode cX10_parity 9 = .ok (.getfield 20, 3) := by decide +kernel
theorem dX10_parity_12 : decode cX10_parity 12 = .ok (.getfield 113, 3) := by decide +kernel
theorem dX10_parity_15 : decode cX10_parity 15 = .ok (.iload_n 1, 1) := by decide +kernel
theorem dX10_parity_16 : decode cX10_parity 16 = .ok (.aaload, 1) := by decide +kernel
theorem dX10_parity_17 : decode cX10_parity 17 = .ok (.invokevirtual 121, 3) := by decide +kernel
theorem dX10_parity_20 : decode cX10_parity 20 = .ok (.goto 4, 3) := by decide +kernel
theorem dX10_parity_23 : decode cX10_parity 23 = .ok (.iconst (-1), 1) := by decide +kernel
theorem dX10_parity_24 : decode cX10_parity 24 = .ok (.ireturn, 1) := by decide +kernel
theorem dX10_identity_0 : decode cX10_identity 0 = .ok (.aload_n 0, 1) := by decide +kernel
theorem dX10_identity_1 : decode cX10_identity 1 = .ok (.iload_n 1, 1) := by decide +kernel
theorem dX10_identity_2 : decode cX10_identity 2 = .ok (.invokevirtual 109, 3) := by decide +kernel
theorem dX10_identity_5 : decode cX10_identity 5 = .ok (.ifCond .ne 5, 3) := by decide +kernel
theorem dX10_identity_8 : decode cX10_identity 8 = .ok (.iconst (-1), 1) := by decide +kernel
theorem dX10_identity_9 : decode cX10_identity 9 = .ok (.ireturn, 1) := by decide +kernel
theorem dX10_identity_10 : decode cX10_identity 10 = .ok (.aload_n 0, 1) := by decide +kernel
theorem dX10_identity_11 : decode cX10_identity 11 = .ok (.getfield 20, 3) := by decide +kernel
theorem dX10_identity_14 : decode cX10_identity 14 = .ok (.getfield 113, 3) := by decide +kernel
theorem dX10_identity_17 : decode cX10_identity 17 = .ok (.iload_n 1, 1) := by decide +kernel
theorem dX10_identity_18 : decode cX10_identity 18 = .ok (.aaload, 1) := by decide +kernel
theorem dX10_identity_19 : decode cX10_identity 19 = .ok (.astore_n 3, 1) := by decide +kernel
theorem dX10_identity_20 : decode cX10_identity 20 = .ok (.aload_n 3, 1) := by decide +kernel
theorem dX10_identity_21 : decode cX10_identity 21 = .ok (.getfield 125, 3) := by decide +kernel
theorem dX10_identity_24 : decode cX10_identity 24 = .ok (.iconst 4, 1) := by decide +kernel
theorem dX10_identity_25 : decode cX10_identity 25 = .ok (.if_icmp .ne 18, 3) := by decide +kernel
theorem dX10_identity_28 : decode cX10_identity 28 = .ok (.aload_n 3, 1) := by decide +kernel
theorem dX10_identity_29 : decode cX10_identity 29 = .ok (.iload_n 2, 1) := by decide +kernel
theorem dX10_identity_30 : decode cX10_identity 30 = .ok (.aload_n 0, 1) := by decide +kernel
theorem dX10_identity_31 : decode cX10_identity 31 = .ok (.getfield 20, 3) := by decide +kernel
theorem dX10_identity_34 : decode cX10_identity 34 = .ok (.getfield 128, 3) := by decide +kernel
theorem dX10_identity_37 : decode cX10_identity 37 = .ok (.invokevirtual 131, 3) := by decide +kernel
theorem dX10_identity_40 : decode cX10_identity 40 = .ok (.goto 5, 3) := by decide +kernel
theorem dX10_identity_43 : decode cX10_identity 43 = .ok (.bipush (-2), 2) := by decide +kernel
theorem dX10_identity_45 : decode cX10_identity 45 = .ok (.ireturn, 1) := by decide +kernel
theorem dX10_made_0 : decode cX10_made 0 = .ok (.aload_n 0, 1) := by decide +kernel
theorem dX10_made_1 : decode cX10_made 1 = .ok (.iload_n 1, 1) := by decide +kernel
theorem dX10_made_2 : decode cX10_made 2 = .ok (.invokevirtual 109, 3) := by decide +kernel
theorem dX10_made_5 : decode cX10_made 5 = .ok (.ifCond .ne 5, 3) := by decide +kernel
theorem dX10_made_8 : decode cX10_made 8 = .ok (.iconst (-1), 1) := by decide +kernel
theorem dX10_made_9 : decode cX10_made 9 = .ok (.ireturn, 1) := by decide +kernel
theorem dX10_made_10 : decode cX10_made 10 = .ok (.aload_n 0, 1) := by decide +kernel
theorem dX10_made_11 : decode cX10_made 11 = .ok (.getfield 20, 3) := by decide +kernel
theorem dX10_made_14 : decode cX10_made 14 = .ok (.getfield 113, 3) := by decide +kernel
theorem dX10_made_17 : decode cX10_made 17 = .ok (.iload_n 1, 1) := by decide +kernel
theorem dX10_made_18 : decode cX10_made 18 = .ok (.aaload, 1) := by decide +kernel
theorem dX10_made_19 : decode cX10_made 19 = .ok (.aload_n 0, 1) := by decide +kernel
theorem dX10_made_20 : decode cX10_made 20 = .ok (.getfield 20, 3) := by decide +kernel
theorem dX10_made_23 : decode cX10_made 23 = .ok (.getfield 128, 3) := by decide +kernel
theorem dX10_made_26 : decode cX10_made 26 = .ok (.invokevirtual 135, 3) := by decide +kernel
theorem dX10_made_29 : decode cX10_made 29 = .ok (.ifCond .eq 7, 3) := by decide +kernel
theorem dX10_made_32 : decode cX10_made 32 = .ok (.iconst 1, 1) := by decide +kernel
theorem dX10_made_33 : decode cX10_made 33 = .ok (.goto 4, 3) := by decide +kernel
theorem dX10_made_36 : decode cX10_made 36 = .ok (.iconst 0, 1) := by decide +kernel
theorem dX10_made_37 : decode cX10_made 37 = .ok (.ireturn, 1) := by decide +kernel
theorem dX10_plain_0 : decode cX10_plain 0 = .ok (.aload_n 0, 1) := by decide +kernel
theorem dX10_plain_1 : decode cX10_plain 1 = .ok (.iload_n 1, 1) := by decide +kernel
theorem dX10_plain_2 : decode cX10_plain 2 = .ok (.invokevirtual 109, 3) := by decide +kernel
theorem dX10_plain_5 : decode cX10_plain 5 = .ok (.ifCond .ne 5, 3) := by decide +kernel
theorem dX10_plain_8 : decode cX10_plain 8 = .ok (.iconst (-1), 1) := by decide +kernel
theorem dX10_plain_9 : decode cX10_plain 9 = .ok (.ireturn, 1) := by decide +kernel
theorem dX10_plain_10 : decode cX10_plain 10 = .ok (.aload_n 0, 1) := by decide +kernel
theorem dX10_plain_11 : decode cX10_plain 11 = .ok (.getfield 20, 3) := by decide +kernel
theorem dX10_plain_14 : decode cX10_plain 14 = .ok (.getfield 113, 3) := by decide +kernel
theorem dX10_plain_17 : decode cX10_plain 17 = .ok (.iload_n 1, 1) := by decide +kernel
theorem dX10_plain_18 : decode cX10_plain 18 = .ok (.aaload, 1) := by decide +kernel
theorem dX10_plain_19 : decode cX10_plain 19 = .ok (.invokevirtual 138, 3) := by decide +kernel
theorem dX10_plain_22 : decode cX10_plain 22 = .ok (.ifCond .eq 7, 3) := by decide +kernel
theorem dX10_plain_25 : decode cX10_plain 25 = .ok (.iconst 1, 1) := by decide +kernel
theorem dX10_plain_26 : decode cX10_plain 26 = .ok (.goto 4, 3) := by decide +kernel
theorem dX10_plain_29 : decode cX10_plain 29 = .ok (.iconst 0, 1) := by decide +kernel
theorem dX10_plain_30 : decode cX10_plain 30 = .ok (.ireturn, 1) := by decide +kernel
theorem dX10_like_0 : decode cX10_like 0 = .ok (.aload_n 0, 1) := by decide +kernel
theorem dX10_like_1 : decode cX10_like 1 = .ok (.iload_n 1, 1) := by decide +kernel
theorem dX10_like_2 : decode cX10_like 2 = .ok (.invokevirtual 109, 3) := by decide +kernel
theorem dX10_like_5 : decode cX10_like 5 = .ok (.ifCond .eq 11, 3) := by decide +kernel
theorem dX10_like_8 : decode cX10_like 8 = .ok (.aload_n 0, 1) := by decide +kernel
theorem dX10_like_9 : decode cX10_like 9 = .ok (.iload_n 2, 1) := by decide +kernel
theorem dX10_like_10 : decode cX10_like 10 = .ok (.invokevirtual 109, 3) := by decide +kernel
theorem dX10_like_13 : decode cX10_like 13 = .ok (.ifCond .ne 5, 3) := by decide +kernel
theorem dX10_like_16 : decode cX10_like 16 = .ok (.iconst (-1), 1) := by decide +kernel
theorem dX10_like_17 : decode cX10_like 17 = .ok (.ireturn, 1) := by decide +kernel
theorem dX10_like_18 : decode cX10_like 18 = .ok (.aload_n 0, 1) := by decide +kernel
theorem dX10_like_19 : decode cX10_like 19 = .ok (.getfield 20, 3) := by decide +kernel
theorem dX10_like_22 : decode cX10_like 22 = .ok (.getfield 113, 3) := by decide +kernel
theorem dX10_like_25 : decode cX10_like 25 = .ok (.iload_n 1, 1) := by decide +kernel
theorem dX10_like_26 : decode cX10_like 26 = .ok (.aaload, 1) := by decide +kernel
theorem dX10_like_27 : decode cX10_like 27 = .ok (.aload_n 0, 1) := by decide +kernel
theorem dX10_like_28 : decode cX10_like 28 = .ok (.getfield 20, 3) := by decide +kernel
theorem dX10_like_31 : decode cX10_like 31 = .ok (.getfield 113, 3) := by decide +kernel
theorem dX10_like_34 : decode cX10_like 34 = .ok (.iload_n 2, 1) := by decide +kernel
theorem dX10_like_35 : decode cX10_like 35 = .ok (.aaload, 1) := by decide +kernel
theorem dX10_like_36 : decode cX10_like 36 = .ok (.aload_n 0, 1) := by decide +kernel
theorem dX10_like_37 : decode cX10_like 37 = .ok (.getfield 20, 3) := by decide +kernel
theorem dX10_like_40 : decode cX10_like 40 = .ok (.getfield 128, 3) := by decide +kernel
theorem dX10_like_43 : decode cX10_like 43 = .ok (.invokevirtual 142, 3) := by decide +kernel
theorem dX10_like_46 : decode cX10_like 46 = .ok (.ireturn, 1) := by decide +kernel
theorem dX10_rank_0 : decode cX10_rank 0 = .ok (.aload_n 0, 1) := by decide +kernel
theorem dX10_rank_1 : decode cX10_rank 1 = .ok (.iload_n 1, 1) := by decide +kernel
theorem dX10_rank_2 : decode cX10_rank 2 = .ok (.invokevirtual 109, 3) := by decide +kernel
theorem dX10_rank_5 : decode cX10_rank 5 = .ok (.ifCond .eq 19, 3) := by decide +kernel
theorem dX10_rank_8 : decode cX10_rank 8 = .ok (.aload_n 0, 1) := by decide +kernel
theorem dX10_rank_9 : decode cX10_rank 9 = .ok (.getfield 20, 3) := by decide +kernel
theorem dX10_rank_12 : decode cX10_rank 12 = .ok (.getfield 113, 3) := by decide +kernel
theorem dX10_rank_15 : decode cX10_rank 15 = .ok (.iload_n 1, 1) := by decide +kernel
theorem dX10_rank_16 : decode cX10_rank 16 = .ok (.aaload, 1) := by decide +kernel
theorem dX10_rank_17 : decode cX10_rank 17 = .ok (.iload_n 2, 1) := by decide +kernel
theorem dX10_rank_18 : decode cX10_rank 18 = .ok (.invokevirtual 145, 3) := by decide +kernel
theorem dX10_rank_21 : decode cX10_rank 21 = .ok (.ifCond .ne 5, 3) := by decide +kernel
theorem dX10_rank_24 : decode cX10_rank 24 = .ok (.iconst (-1), 1) := by decide +kernel
theorem dX10_rank_25 : decode cX10_rank 25 = .ok (.ireturn, 1) := by decide +kernel
theorem dX10_rank_26 : decode cX10_rank 26 = .ok (.aload_n 0, 1) := by decide +kernel
theorem dX10_rank_27 : decode cX10_rank 27 = .ok (.getfield 73, 3) := by decide +kernel
theorem dX10_rank_30 : decode cX10_rank 30 = .ok (.aload_n 0, 1) := by decide +kernel
theorem dX10_rank_31 : decode cX10_rank 31 = .ok (.getfield 20, 3) := by decide +kernel
theorem dX10_rank_34 : decode cX10_rank 34 = .ok (.getfield 113, 3) := by decide +kernel
theorem dX10_rank_37 : decode cX10_rank 37 = .ok (.iload_n 1, 1) := by decide +kernel
theorem dX10_rank_38 : decode cX10_rank 38 = .ok (.aaload, 1) := by decide +kernel
theorem dX10_rank_39 : decode cX10_rank 39 = .ok (.iload_n 2, 1) := by decide +kernel
theorem dX10_rank_40 : decode cX10_rank 40 = .ok (.invokevirtual 148, 3) := by decide +kernel
theorem dX10_rank_43 : decode cX10_rank 43 = .ok (.aload_n 0, 1) := by decide +kernel
theorem dX10_rank_44 : decode cX10_rank 44 = .ok (.getfield 73, 3) := by decide +kernel
theorem dX10_rank_47 : decode cX10_rank 47 = .ok (.aload_n 0, 1) := by decide +kernel
theorem dX10_rank_48 : decode cX10_rank 48 = .ok (.getfield 20, 3) := by decide +kernel
theorem dX10_rank_51 : decode cX10_rank 51 = .ok (.getfield 128, 3) := by decide +kernel
theorem dX10_rank_54 : decode cX10_rank 54 = .ok (.invokevirtual 152, 3) := by decide +kernel
theorem dX10_rank_57 : decode cX10_rank 57 = .ok (.ireturn, 1) := by decide +kernel
theorem dX10_base_0 : decode cX10_base 0 = .ok (.aload_n 0, 1) := by decide +kernel
theorem dX10_base_1 : decode cX10_base 1 = .ok (.iload_n 1, 1) := by decide +kernel
theorem dX10_base_2 : decode cX10_base 2 = .ok (.invokevirtual 156, 3) := by decide +kernel
theorem dX10_base_5 : decode cX10_base 5 = .ok (.ifCond .ne 13, 3) := by decide +kernel
theorem dX10_base_8 : decode cX10_base 8 = .ok (.new 159, 3) := by decide +kernel
theorem dX10_base_11 : decode cX10_base 11 = .ok (.dup, 1) := by decide +kernel
theorem dX10_base_12 : decode cX10_base 12 = .ok (.ldc 161, 2) := by decide +kernel
theorem dX10_base_14 : decode cX10_base 14 = .ok (.invokespecial 163, 3) := by decide +kernel
theorem dX10_base_17 : decode cX10_base 17 = .ok (.athrow, 1) := by decide +kernel
theorem dX10_base_18 : decode cX10_base 18 = .ok (.aload_n 0, 1) := by decide +kernel
theorem dX10_base_19 : decode cX10_base 19 = .ok (.getfield 20, 3) := by decide +kernel
theorem dX10_base_22 : decode cX10_base 22 = .ok (.getfield 166, 3) := by decide +kernel
theorem dX10_base_25 : decode cX10_base 25 = .ok (.iload_n 1, 1) := by decide +kernel
theorem dX10_base_26 : decode cX10_base 26 = .ok (.aaload, 1) := by decide +kernel
theorem dX10_base_27 : decode cX10_base 27 = .ok (.astore_n 3, 1) := by decide +kernel
theorem dX10_base_28 : decode cX10_base 28 = .ok (.iload_n 2, 1) := by decide +kernel
theorem dX10_base_29 : decode cX10_base 29 = .ok (.tableswitch 67 0 4 #[35, 40, 45, 50, 55], 35) := by decide +kernel
theorem dX10_base_64 : decode cX10_base 64 = .ok (.aload_n 3, 1) := by decide +kernel
theorem dX10_base_65 : decode cX10_base 65 = .ok (.getfield 170, 3) := by decide +kernel
theorem dX10_base_68 : decode cX10_base 68 = .ok (.ireturn, 1) := by decide +kernel
theorem dX10_base_69 : decode cX10_base 69 = .ok (.aload_n 3, 1) := by decide +kernel
theorem dX10_base_70 : decode cX10_base 70 = .ok (.getfield 173, 3) := by decide +kernel
theorem dX10_base_73 : decode cX10_base 73 = .ok (.ireturn, 1) := by decide +kernel
theorem dX10_base_74 : decode cX10_base 74 = .ok (.aload_n 3, 1) := by decide +kernel
theorem dX10_base_75 : decode cX10_base 75 = .ok (.getfield 176, 3) := by decide +kernel
theorem dX10_base_78 : decode cX10_base 78 = .ok (.ireturn, 1) := by decide +kernel
theorem dX10_base_79 : decode cX10_base 79 = .ok (.aload_n 3, 1) := by decide +kernel
theorem dX10_base_80 : decode cX10_base 80 = .ok (.getfield 179, 3) := by decide +kernel
theorem dX10_base_83 : decode cX10_base 83 = .ok (.ireturn, 1) := by decide +kernel
theorem dX10_base_84 : decode cX10_base 84 = .ok (.aload_n 3, 1) := by decide +kernel
theorem dX10_base_85 : decode cX10_base 85 = .ok (.aload_n 0, 1) := by decide +kernel
theorem dX10_base_86 : decode cX10_base 86 = .ok (.getfield 20, 3) := by decide +kernel
theorem dX10_base_89 : decode cX10_base 89 = .ok (.getfield 128, 3) := by decide +kernel
theorem dX10_base_92 : decode cX10_base 92 = .ok (.invokevirtual 182, 3) := by decide +kernel
theorem dX10_base_95 : decode cX10_base 95 = .ok (.ireturn, 1) := by decide +kernel
theorem dX10_base_96 : decode cX10_base 96 = .ok (.new 159, 3) := by decide +kernel
theorem dX10_base_99 : decode cX10_base 99 = .ok (.dup, 1) := by decide +kernel
theorem dX10_base_100 : decode cX10_base 100 = .ok (.ldc 185, 2) := by decide +kernel
theorem dX10_base_102 : decode cX10_base 102 = .ok (.invokespecial 163, 3) := by decide +kernel
theorem dX10_base_105 : decode cX10_base 105 = .ok (.athrow, 1) := by decide +kernel
theorem dX10_based_0 : decode cX10_based 0 = .ok (.aload_n 0, 1) := by decide +kernel
theorem dX10_based_1 : decode cX10_based 1 = .ok (.iload_n 1, 1) := by decide +kernel
theorem dX10_based_2 : decode cX10_based 2 = .ok (.invokevirtual 109, 3) := by decide +kernel
theorem dX10_based_5 : decode cX10_based 5 = .ok (.ifCond .eq 27, 3) := by decide +kernel
theorem dX10_based_8 : decode cX10_based 8 = .ok (.aload_n 0, 1) := by decide +kernel
theorem dX10_based_9 : decode cX10_based 9 = .ok (.iload_n 2, 1) := by decide +kernel
theorem dX10_based_10 : decode cX10_based 10 = .ok (.invokevirtual 156, 3) := by decide +kernel
theorem dX10_based_13 : decode cX10_based 13 = .ok (.ifCond .eq 19, 3) := by decide +kernel
theorem dX10_based_16 : decode cX10_based 16 = .ok (.aload_n 0, 1) := by decide +kernel
theorem dX10_based_17 : decode cX10_based 17 = .ok (.getfield 20, 3) := by decide +kernel
theorem dX10_based_20 : decode cX10_based 20 = .ok (.getfield 113, 3) := by decide +kernel
theorem dX10_based_23 : decode cX10_based 23 = .ok (.iload_n 1, 1) := by decide +kernel
theorem dX10_based_24 : decode cX10_based 24 = .ok (.aaload, 1) := by decide +kernel
theorem dX10_based_25 : decode cX10_based 25 = .ok (.iload_n 3, 1) := by decide +kernel
theorem dX10_based_26 : decode cX10_based 26 = .ok (.invokevirtual 145, 3) := by decide +kernel
theorem dX10_based_29 : decode cX10_based 29 = .ok (.ifCond .ne 5, 3) := by decide +kernel
theorem dX10_based_32 : decode cX10_based 32 = .ok (.iconst (-1), 1) := by decide +kernel
theorem dX10_based_33 : decode cX10_based 33 = .ok (.ireturn, 1) := by decide +kernel
theorem dX10_based_34 : decode cX10_based 34 = .ok (.aload_n 0, 1) := by decide +kernel
theorem dX10_based_35 : decode cX10_based 35 = .ok (.getfield 80, 3) := by decide +kernel
theorem dX10_based_38 : decode cX10_based 38 = .ok (.aload_n 0, 1) := by decide +kernel
theorem dX10_based_39 : decode cX10_based 39 = .ok (.getfield 20, 3) := by decide +kernel
theorem dX10_based_42 : decode cX10_based 42 = .ok (.getfield 113, 3) := by decide +kernel
theorem dX10_based_45 : decode cX10_based 45 = .ok (.iload_n 1, 1) := by decide +kernel
theorem dX10_based_46 : decode cX10_based 46 = .ok (.aaload, 1) := by decide +kernel
theorem dX10_based_47 : decode cX10_based 47 = .ok (.invokevirtual 187, 3) := by decide +kernel
theorem dX10_based_50 : decode cX10_based 50 = .ok (.aload_n 0, 1) := by decide +kernel
theorem dX10_based_51 : decode cX10_based 51 = .ok (.getfield 80, 3) := by decide +kernel
theorem dX10_based_54 : decode cX10_based 54 = .ok (.aload_n 0, 1) := by decide +kernel
theorem dX10_based_55 : decode cX10_based 55 = .ok (.getfield 20, 3) := by decide +kernel
theorem dX10_based_58 : decode cX10_based 58 = .ok (.getfield 166, 3) := by decide +kernel
theorem dX10_based_61 : decode cX10_based 61 = .ok (.iload_n 2, 1) := by decide +kernel
theorem dX10_based_62 : decode cX10_based 62 = .ok (.aaload, 1) := by decide +kernel
theorem dX10_based_63 : decode cX10_based 63 = .ok (.aload_n 0, 1) := by decide +kernel
theorem dX10_based_64 : decode cX10_based 64 = .ok (.getfield 20, 3) := by decide +kernel
theorem dX10_based_67 : decode cX10_based 67 = .ok (.getfield 128, 3) := by decide +kernel
theorem dX10_based_70 : decode cX10_based 70 = .ok (.invokevirtual 190, 3) := by decide +kernel
theorem dX10_based_73 : decode cX10_based 73 = .ok (.aload_n 0, 1) := by decide +kernel
theorem dX10_based_74 : decode cX10_based 74 = .ok (.getfield 80, 3) := by decide +kernel
theorem dX10_based_77 : decode cX10_based 77 = .ok (.getfield 194, 3) := by decide +kernel
theorem dX10_based_80 : decode cX10_based 80 = .ok (.iload_n 3, 1) := by decide +kernel
theorem dX10_based_81 : decode cX10_based 81 = .ok (.iaload, 1) := by decide +kernel
theorem dX10_based_82 : decode cX10_based 82 = .ok (.ireturn, 1) := by decide +kernel
theorem dX10_fits_0 : decode cX10_fits 0 = .ok (.aload_n 0, 1) := by decide +kernel
theorem dX10_fits_1 : decode cX10_fits 1 = .ok (.iload_n 1, 1) := by decide +kernel
theorem dX10_fits_2 : decode cX10_fits 2 = .ok (.invokevirtual 109, 3) := by decide +kernel
theorem dX10_fits_5 : decode cX10_fits 5 = .ok (.ifCond .eq 11, 3) := by decide +kernel
theorem dX10_fits_8 : decode cX10_fits 8 = .ok (.aload_n 0, 1) := by decide +kernel
theorem dX10_fits_9 : decode cX10_fits 9 = .ok (.iload_n 2, 1) := by decide +kernel
theorem dX10_fits_10 : decode cX10_fits 10 = .ok (.invokevirtual 156, 3) := by decide +kernel
theorem dX10_fits_13 : decode cX10_fits 13 = .ok (.ifCond .ne 5, 3) := by decide +kernel
theorem dX10_fits_16 : decode cX10_fits 16 = .ok (.iconst (-1), 1) := by decide +kernel
theorem dX10_fits_17 : decode cX10_fits 17 = .ok (.ireturn, 1) := by decide +kernel
theorem dX10_fits_18 : decode cX10_fits 18 = .ok (.aload_n 0, 1) := by decide +kernel
theorem dX10_fits_19 : decode cX10_fits 19 = .ok (.aload_n 0, 1) := by decide +kernel
theorem dX10_fits_20 : decode cX10_fits 20 = .ok (.getfield 20, 3) := by decide +kernel
theorem dX10_fits_23 : decode cX10_fits 23 = .ok (.getfield 113, 3) := by decide +kernel
theorem dX10_fits_26 : decode cX10_fits 26 = .ok (.iload_n 1, 1) := by decide +kernel
theorem dX10_fits_27 : decode cX10_fits 27 = .ok (.aaload, 1) := by decide +kernel
theorem dX10_fits_28 : decode cX10_fits 28 = .ok (.aload_n 0, 1) := by decide +kernel
theorem dX10_fits_29 : decode cX10_fits 29 = .ok (.getfield 20, 3) := by decide +kernel
theorem dX10_fits_32 : decode cX10_fits 32 = .ok (.getfield 166, 3) := by decide +kernel
theorem dX10_fits_35 : decode cX10_fits 35 = .ok (.iload_n 2, 1) := by decide +kernel
theorem dX10_fits_36 : decode cX10_fits 36 = .ok (.aaload, 1) := by decide +kernel
theorem dX10_fits_37 : decode cX10_fits 37 = .ok (.invokevirtual 198, 3) := by decide +kernel
theorem dX10_fits_40 : decode cX10_fits 40 = .ok (.ifCond .eq 7, 3) := by decide +kernel
theorem dX10_fits_43 : decode cX10_fits 43 = .ok (.iconst 1, 1) := by decide +kernel
theorem dX10_fits_44 : decode cX10_fits 44 = .ok (.goto 4, 3) := by decide +kernel
theorem dX10_fits_47 : decode cX10_fits 47 = .ok (.iconst 0, 1) := by decide +kernel
theorem dX10_fits_48 : decode cX10_fits 48 = .ok (.ireturn, 1) := by decide +kernel
theorem dX10_first_0 : decode cX10_first 0 = .ok (.aload_n 0, 1) := by decide +kernel
theorem dX10_first_1 : decode cX10_first 1 = .ok (.iload_n 1, 1) := by decide +kernel
theorem dX10_first_2 : decode cX10_first 2 = .ok (.invokevirtual 109, 3) := by decide +kernel
theorem dX10_first_5 : decode cX10_first 5 = .ok (.ifCond .ne 5, 3) := by decide +kernel
theorem dX10_first_8 : decode cX10_first 8 = .ok (.iconst (-1), 1) := by decide +kernel
theorem dX10_first_9 : decode cX10_first 9 = .ok (.ireturn, 1) := by decide +kernel
theorem dX10_first_10 : decode cX10_first 10 = .ok (.iconst 0, 1) := by decide +kernel
theorem dX10_first_11 : decode cX10_first 11 = .ok (.istore_n 2, 1) := by decide +kernel
theorem dX10_first_12 : decode cX10_first 12 = .ok (.iload_n 2, 1) := by decide +kernel
theorem dX10_first_13 : decode cX10_first 13 = .ok (.aload_n 0, 1) := by decide +kernel
theorem dX10_first_14 : decode cX10_first 14 = .ok (.getfield 20, 3) := by decide +kernel
theorem dX10_first_17 : decode cX10_first 17 = .ok (.getfield 202, 3) := by decide +kernel
theorem dX10_first_20 : decode cX10_first 20 = .ok (.if_icmp .ge 36, 3) := by decide +kernel
theorem dX10_first_23 : decode cX10_first 23 = .ok (.aload_n 0, 1) := by decide +kernel
theorem dX10_first_24 : decode cX10_first 24 = .ok (.aload_n 0, 1) := by decide +kernel
theorem dX10_first_25 : decode cX10_first 25 = .ok (.getfield 20, 3) := by decide +kernel
theorem dX10_first_28 : decode cX10_first 28 = .ok (.getfield 113, 3) := by decide +kernel
theorem dX10_first_31 : decode cX10_first 31 = .ok (.iload_n 1, 1) := by decide +kernel
theorem dX10_first_32 : decode cX10_first 32 = .ok (.aaload, 1) := by decide +kernel
theorem dX10_first_33 : decode cX10_first 33 = .ok (.aload_n 0, 1) := by decide +kernel
theorem dX10_first_34 : decode cX10_first 34 = .ok (.getfield 20, 3) := by decide +kernel
theorem dX10_first_37 : decode cX10_first 37 = .ok (.getfield 166, 3) := by decide +kernel
theorem dX10_first_40 : decode cX10_first 40 = .ok (.iload_n 2, 1) := by decide +kernel
theorem dX10_first_41 : decode cX10_first 41 = .ok (.aaload, 1) := by decide +kernel
theorem dX10_first_42 : decode cX10_first 42 = .ok (.invokevirtual 198, 3) := by decide +kernel
theorem dX10_first_45 : decode cX10_first 45 = .ok (.ifCond .eq 5, 3) := by decide +kernel
theorem dX10_first_48 : decode cX10_first 48 = .ok (.iload_n 2, 1) := by decide +kernel
theorem dX10_first_49 : decode cX10_first 49 = .ok (.ireturn, 1) := by decide +kernel
theorem dX10_first_50 : decode cX10_first 50 = .ok (.iinc 2 1, 3) := by decide +kernel
theorem dX10_first_53 : decode cX10_first 53 = .ok (.goto (-41), 3) := by decide +kernel
theorem dX10_first_56 : decode cX10_first 56 = .ok (.bipush (-2), 2) := by decide +kernel
theorem dX10_first_58 : decode cX10_first 58 = .ok (.ireturn, 1) := by decide +kernel
theorem dX10_seek_0 : decode cX10_seek 0 = .ok (.aload_n 0, 1) := by decide +kernel
theorem dX10_seek_1 : decode cX10_seek 1 = .ok (.iload_n 1, 1) := by decide +kernel
theorem dX10_seek_2 : decode cX10_seek 2 = .ok (.invokevirtual 109, 3) := by decide +kernel
theorem dX10_seek_5 : decode cX10_seek 5 = .ok (.ifCond .ne 5, 3) := by decide +kernel
theorem dX10_seek_8 : decode cX10_seek 8 = .ok (.iconst (-1), 1) := by decide +kernel
theorem dX10_seek_9 : decode cX10_seek 9 = .ok (.ireturn, 1) := by decide +kernel
theorem dX10_seek_10 : decode cX10_seek 10 = .ok (.aload_n 0, 1) := by decide +kernel
theorem dX10_seek_11 : decode cX10_seek 11 = .ok (.getfield 20, 3) := by decide +kernel
theorem dX10_seek_14 : decode cX10_seek 14 = .ok (.getfield 113, 3) := by decide +kernel
theorem dX10_seek_17 : decode cX10_seek 17 = .ok (.iload_n 1, 1) := by decide +kernel
theorem dX10_seek_18 : decode cX10_seek 18 = .ok (.aaload, 1) := by decide +kernel
theorem dX10_seek_19 : decode cX10_seek 19 = .ok (.astore_n 2, 1) := by decide +kernel
theorem dX10_seek_20 : decode cX10_seek 20 = .ok (.aload_n 0, 1) := by decide +kernel
theorem dX10_seek_21 : decode cX10_seek 21 = .ok (.aload_n 2, 1) := by decide +kernel
theorem dX10_seek_22 : decode cX10_seek 22 = .ok (.iconst 0, 1) := by decide +kernel
theorem dX10_seek_23 : decode cX10_seek 23 = .ok (.iconst 1, 1) := by decide +kernel
theorem dX10_seek_24 : decode cX10_seek 24 = .ok (.invokevirtual 205, 3) := by decide +kernel
theorem dX10_seek_27 : decode cX10_seek 27 = .ok (.ifCond .eq 5, 3) := by decide +kernel
theorem dX10_seek_30 : decode cX10_seek 30 = .ok (.iconst 1, 1) := by decide +kernel
theorem dX10_seek_31 : decode cX10_seek 31 = .ok (.ireturn, 1) := by decide +kernel
theorem dX10_seek_32 : decode cX10_seek 32 = .ok (.iconst 0, 1) := by decide +kernel
theorem dX10_seek_33 : decode cX10_seek 33 = .ok (.istore_n 3, 1) := by decide +kernel
theorem dX10_seek_34 : decode cX10_seek 34 = .ok (.iload_n 3, 1) := by decide +kernel
theorem dX10_seek_35 : decode cX10_seek 35 = .ok (.aload_n 0, 1) := by decide +kernel
theorem dX10_seek_36 : decode cX10_seek 36 = .ok (.getfield 20, 3) := by decide +kernel
theorem dX10_seek_39 : decode cX10_seek 39 = .ok (.getfield 128, 3) := by decide +kernel
theorem dX10_seek_42 : decode cX10_seek 42 = .ok (.if_icmp .ge 34, 3) := by decide +kernel
theorem dX10_seek_45 : decode cX10_seek 45 = .ok (.iload_n 3, 1) := by decide +kernel
theorem dX10_seek_46 : decode cX10_seek 46 = .ok (.iconst 1, 1) := by decide +kernel
theorem dX10_seek_47 : decode cX10_seek 47 = .ok (.if_icmp .eq 23, 3) := by decide +kernel
theorem dX10_seek_50 : decode cX10_seek 50 = .ok (.aload_n 0, 1) := by decide +kernel
theorem dX10_seek_51 : decode cX10_seek 51 = .ok (.aload_n 2, 1) := by decide +kernel
theorem dX10_seek_52 : decode cX10_seek 52 = .ok (.iconst 1, 1) := by decide +kernel
theorem dX10_seek_53 : decode cX10_seek 53 = .ok (.iload_n 3, 1) := by decide +kernel
theorem dX10_seek_54 : decode cX10_seek 54 = .ok (.invokevirtual 205, 3) := by decide +kernel
theorem dX10_seek_57 : decode cX10_seek 57 = .ok (.ifCond .eq 13, 3) := by decide +kernel
theorem dX10_seek_60 : decode cX10_seek 60 = .ok (.aload_n 0, 1) := by decide +kernel
theorem dX10_seek_61 : decode cX10_seek 61 = .ok (.getfield 20, 3) := by decide +kernel
theorem dX10_seek_64 : decode cX10_seek 64 = .ok (.getfield 128, 3) := by decide +kernel
theorem dX10_seek_67 : decode cX10_seek 67 = .ok (.iload_n 3, 1) := by decide +kernel
theorem dX10_seek_68 : decode cX10_seek 68 = .ok (.iadd, 1) := by decide +kernel
theorem dX10_seek_69 : decode cX10_seek 69 = .ok (.ireturn, 1) := by decide +kernel
theorem dX10_seek_70 : decode cX10_seek 70 = .ok (.iinc 3 1, 3) := by decide +kernel
theorem dX10_seek_73 : decode cX10_seek 73 = .ok (.goto (-39), 3) := by decide +kernel
theorem dX10_seek_76 : decode cX10_seek 76 = .ok (.bipush (-2), 2) := by decide +kernel
theorem dX10_seek_78 : decode cX10_seek 78 = .ok (.ireturn, 1) := by decide +kernel
theorem dX10_node_0 : decode cX10_node 0 = .ok (.aload_n 0, 1) := by decide +kernel
theorem dX10_node_1 : decode cX10_node 1 = .ok (.getfield 30, 3) := by decide +kernel
theorem dX10_node_4 : decode cX10_node 4 = .ok (.iload_n 1, 1) := by decide +kernel
theorem dX10_node_5 : decode cX10_node 5 = .ok (.invokevirtual 209, 3) := by decide +kernel
theorem dX10_node_8 : decode cX10_node 8 = .ok (.ifCond .ne 6, 3) := by decide +kernel
theorem dX10_node_11 : decode cX10_node 11 = .ok (.bipush (-2), 2) := by decide +kernel
theorem dX10_node_13 : decode cX10_node 13 = .ok (.ireturn, 1) := by decide +kernel
theorem dX10_node_14 : decode cX10_node 14 = .ok (.aload_n 0, 1) := by decide +kernel
theorem dX10_node_15 : decode cX10_node 15 = .ok (.getfield 30, 3) := by decide +kernel
theorem dX10_node_18 : decode cX10_node 18 = .ok (.getfield 212, 3) := by decide +kernel
theorem dX10_node_21 : decode cX10_node 21 = .ok (.iload_n 1, 1) := by decide +kernel
theorem dX10_node_22 : decode cX10_node 22 = .ok (.aaload, 1) := by decide +kernel
theorem dX10_node_23 : decode cX10_node 23 = .ok (.iload_n 2, 1) := by decide +kernel
theorem dX10_node_24 : decode cX10_node 24 = .ok (.invokestatic 117, 3) := by decide +kernel
theorem dX10_node_27 : decode cX10_node 27 = .ok (.ireturn, 1) := by decide +kernel
theorem dX10_wire_0 : decode cX10_wire 0 = .ok (.aload_n 0, 1) := by decide +kernel
theorem dX10_wire_1 : decode cX10_wire 1 = .ok (.getfield 30, 3) := by decide +kernel
theorem dX10_wire_4 : decode cX10_wire 4 = .ok (.iload_n 1, 1) := by decide +kernel
theorem dX10_wire_5 : decode cX10_wire 5 = .ok (.invokevirtual 215, 3) := by decide +kernel
theorem dX10_wire_8 : decode cX10_wire 8 = .ok (.ifCond .eq 12, 3) := by decide +kernel
theorem dX10_wire_11 : decode cX10_wire 11 = .ok (.iload_n 2, 1) := by decide +kernel
theorem dX10_wire_12 : decode cX10_wire 12 = .ok (.ifCond .lt 8, 3) := by decide +kernel
theorem dX10_wire_15 : decode cX10_wire 15 = .ok (.iload_n 2, 1) := by decide +kernel
theorem dX10_wire_16 : decode cX10_wire 16 = .ok (.iconst 3, 1) := by decide +kernel
theorem dX10_wire_17 : decode cX10_wire 17 = .ok (.if_icmp .le 13, 3) := by decide +kernel
theorem dX10_wire_20 : decode cX10_wire 20 = .ok (.new 159, 3) := by decide +kernel
theorem dX10_wire_23 : decode cX10_wire 23 = .ok (.dup, 1) := by decide +kernel
theorem dX10_wire_24 : decode cX10_wire 24 = .ok (.ldc 218, 2) := by decide +kernel
theorem dX10_wire_26 : decode cX10_wire 26 = .ok (.invokespecial 163, 3) := by decide +kernel
theorem dX10_wire_29 : decode cX10_wire 29 = .ok (.athrow, 1) := by decide +kernel
theorem dX10_wire_30 : decode cX10_wire 30 = .ok (.aload_n 0, 1) := by decide +kernel
theorem dX10_wire_31 : decode cX10_wire 31 = .ok (.getfield 30, 3) := by decide +kernel
theorem dX10_wire_34 : decode cX10_wire 34 = .ok (.getfield 220, 3) := by decide +kernel
theorem dX10_wire_37 : decode cX10_wire 37 = .ok (.iconst 2, 1) := by decide +kernel
theorem dX10_wire_38 : decode cX10_wire 38 = .ok (.iload_n 1, 1) := by decide +kernel
theorem dX10_wire_39 : decode cX10_wire 39 = .ok (.imul, 1) := by decide +kernel
theorem dX10_wire_40 : decode cX10_wire 40 = .ok (.iload_n 2, 1) := by decide +kernel
theorem dX10_wire_41 : decode cX10_wire 41 = .ok (.iconst 2, 1) := by decide +kernel
theorem dX10_wire_42 : decode cX10_wire 42 = .ok (.idiv, 1) := by decide +kernel
theorem dX10_wire_43 : decode cX10_wire 43 = .ok (.iadd, 1) := by decide +kernel
theorem dX10_wire_44 : decode cX10_wire 44 = .ok (.iaload, 1) := by decide +kernel
theorem dX10_wire_45 : decode cX10_wire 45 = .ok (.istore_n 3, 1) := by decide +kernel
theorem dX10_wire_46 : decode cX10_wire 46 = .ok (.iload_n 2, 1) := by decide +kernel
theorem dX10_wire_47 : decode cX10_wire 47 = .ok (.iconst 2, 1) := by decide +kernel
theorem dX10_wire_48 : decode cX10_wire 48 = .ok (.irem, 1) := by decide +kernel
theorem dX10_wire_49 : decode cX10_wire 49 = .ok (.ifCond .ne 9, 3) := by decide +kernel
theorem dX10_wire_52 : decode cX10_wire 52 = .ok (.iload_n 3, 1) := by decide +kernel
theorem dX10_wire_53 : decode cX10_wire 53 = .ok (.iconst 4, 1) := by decide +kernel
theorem dX10_wire_54 : decode cX10_wire 54 = .ok (.idiv, 1) := by decide +kernel
theorem dX10_wire_55 : decode cX10_wire 55 = .ok (.goto 6, 3) := by decide +kernel
theorem dX10_wire_58 : decode cX10_wire 58 = .ok (.iload_n 3, 1) := by decide +kernel
theorem dX10_wire_59 : decode cX10_wire 59 = .ok (.iconst 4, 1) := by decide +kernel
theorem dX10_wire_60 : decode cX10_wire 60 = .ok (.irem, 1) := by decide +kernel
theorem dX10_wire_61 : decode cX10_wire 61 = .ok (.ireturn, 1) := by decide +kernel
theorem dX10_open_0 : decode cX10_open 0 = .ok (.iload_n 1, 1) := by decide +kernel
theorem dX10_open_1 : decode cX10_open 1 = .ok (.iconst (-1), 1) := by decide +kernel
theorem dX10_open_2 : decode cX10_open 2 = .ok (.if_icmp .ne 11, 3) := by decide +kernel
theorem dX10_open_5 : decode cX10_open 5 = .ok (.aload_n 0, 1) := by decide +kernel
theorem dX10_open_6 : decode cX10_open 6 = .ok (.getfield 30, 3) := by decide +kernel
theorem dX10_open_9 : decode cX10_open 9 = .ok (.invokevirtual 223, 3) := by decide +kernel
theorem dX10_open_12 : decode cX10_open 12 = .ok (.ireturn, 1) := by decide +kernel
theorem dX10_open_13 : decode cX10_open 13 = .ok (.aload_n 0, 1) := by decide +kernel
theorem dX10_open_14 : decode cX10_open 14 = .ok (.getfield 30, 3) := by decide +kernel
theorem dX10_open_17 : decode cX10_open 17 = .ok (.iload_n 1, 1) := by decide +kernel
theorem dX10_open_18 : decode cX10_open 18 = .ok (.invokevirtual 226, 3) := by decide +kernel
theorem dX10_open_21 : decode cX10_open 21 = .ok (.istore_n 2, 1) := by decide +kernel
theorem dX10_open_22 : decode cX10_open 22 = .ok (.iload_n 2, 1) := by decide +kernel
theorem dX10_open_23 : decode cX10_open 23 = .ok (.iconst (-1), 1) := by decide +kernel
theorem dX10_open_24 : decode cX10_open 24 = .ok (.if_icmp .ne 8, 3) := by decide +kernel
theorem dX10_open_27 : decode cX10_open 27 = .ok (.bipush (-2), 2) := by decide +kernel
theorem dX10_open_29 : decode cX10_open 29 = .ok (.goto 13, 3) := by decide +kernel
theorem dX10_open_32 : decode cX10_open 32 = .ok (.bipush 10, 2) := by decide +kernel
theorem dX10_open_34 : decode cX10_open 34 = .ok (.iload_n 2, 1) := by decide +kernel
theorem dX10_open_35 : decode cX10_open 35 = .ok (.iconst 4, 1) := by decide +kernel
theorem dX10_open_36 : decode cX10_open 36 = .ok (.idiv, 1) := by decide +kernel
theorem dX10_open_37 : decode cX10_open 37 = .ok (.imul, 1) := by decide +kernel
theorem dX10_open_38 : decode cX10_open 38 = .ok (.iload_n 2, 1) := by decide +kernel
theorem dX10_open_39 : decode cX10_open 39 = .ok (.iconst 4, 1) := by decide +kernel
theorem dX10_open_40 : decode cX10_open 40 = .ok (.irem, 1) := by decide +kernel
theorem dX10_open_41 : decode cX10_open 41 = .ok (.iadd, 1) := by decide +kernel
theorem dX10_open_42 : decode cX10_open 42 = .ok (.ireturn, 1) := by decide +kernel
theorem dX10_sum_0 : decode cX10_sum 0 = .ok (.aload_n 0, 1) := by decide +kernel
theorem dX10_sum_1 : decode cX10_sum 1 = .ok (.iload_n 1, 1) := by decide +kernel
theorem dX10_sum_2 : decode cX10_sum 2 = .ok (.invokevirtual 229, 3) := by decide +kernel
theorem dX10_sum_5 : decode cX10_sum 5 = .ok (.ifCond .ne 5, 3) := by decide +kernel
theorem dX10_sum_8 : decode cX10_sum 8 = .ok (.iconst (-1), 1) := by decide +kernel
theorem dX10_sum_9 : decode cX10_sum 9 = .ok (.ireturn, 1) := by decide +kernel
theorem dX10_sum_10 : decode cX10_sum 10 = .ok (.aload_n 0, 1) := by decide +kernel
theorem dX10_sum_11 : decode cX10_sum 11 = .ok (.getfield 59, 3) := by decide +kernel
theorem dX10_sum_14 : decode cX10_sum 14 = .ok (.aload_n 0, 1) := by decide +kernel
theorem dX10_sum_15 : decode cX10_sum 15 = .ok (.getfield 30, 3) := by decide +kernel
theorem dX10_sum_18 : decode cX10_sum 18 = .ok (.iload_n 1, 1) := by decide +kernel
theorem dX10_sum_19 : decode cX10_sum 19 = .ok (.aload_n 0, 1) := by decide +kernel
theorem dX10_sum_20 : decode cX10_sum 20 = .ok (.getfield 20, 3) := by decide +kernel
theorem dX10_sum_23 : decode cX10_sum 23 = .ok (.getfield 128, 3) := by decide +kernel
theorem dX10_sum_26 : decode cX10_sum 26 = .ok (.invokevirtual 232, 3) := by decide +kernel
theorem dX10_sum_29 : decode cX10_sum 29 = .ok (.aload_n 0, 1) := by decide +kernel
theorem dX10_sum_30 : decode cX10_sum 30 = .ok (.getfield 59, 3) := by decide +kernel
theorem dX10_sum_33 : decode cX10_sum 33 = .ok (.getfield 236, 3) := by decide +kernel
theorem dX10_sum_36 : decode cX10_sum 36 = .ok (.ireturn, 1) := by decide +kernel
theorem dX10_total_0 : decode cX10_total 0 = .ok (.aload_n 0, 1) := by decide +kernel
theorem dX10_total_1 : decode cX10_total 1 = .ok (.getfield 59, 3) := by decide +kernel
theorem dX10_total_4 : decode cX10_total 4 = .ok (.aload_n 0, 1) := by decide +kernel
theorem dX10_total_5 : decode cX10_total 5 = .ok (.getfield 30, 3) := by decide +kernel
theorem dX10_total_8 : decode cX10_total 8 = .ok (.aload_n 0, 1) := by decide +kernel
theorem dX10_total_9 : decode cX10_total 9 = .ok (.getfield 20, 3) := by decide +kernel
theorem dX10_total_12 : decode cX10_total 12 = .ok (.getfield 128, 3) := by decide +kernel
theorem dX10_total_15 : decode cX10_total 15 = .ok (.invokevirtual 239, 3) := by decide +kernel
theorem dX10_total_18 : decode cX10_total 18 = .ok (.aload_n 0, 1) := by decide +kernel
theorem dX10_total_19 : decode cX10_total 19 = .ok (.getfield 59, 3) := by decide +kernel
theorem dX10_total_22 : decode cX10_total 22 = .ok (.getfield 236, 3) := by decide +kernel
theorem dX10_total_25 : decode cX10_total 25 = .ok (.ireturn, 1) := by decide +kernel
theorem dX10_ways_0 : decode cX10_ways 0 = .ok (.aload_n 0, 1) := by decide +kernel
theorem dX10_ways_1 : decode cX10_ways 1 = .ok (.iload_n 1, 1) := by decide +kernel
theorem dX10_ways_2 : decode cX10_ways 2 = .ok (.invokevirtual 229, 3) := by decide +kernel
theorem dX10_ways_5 : decode cX10_ways 5 = .ok (.ifCond .ne 5, 3) := by decide +kernel
theorem dX10_ways_8 : decode cX10_ways 8 = .ok (.iconst (-1), 1) := by decide +kernel
theorem dX10_ways_9 : decode cX10_ways 9 = .ok (.ireturn, 1) := by decide +kernel
theorem dX10_ways_10 : decode cX10_ways 10 = .ok (.aload_n 0, 1) := by decide +kernel
theorem dX10_ways_11 : decode cX10_ways 11 = .ok (.getfield 59, 3) := by decide +kernel
theorem dX10_ways_14 : decode cX10_ways 14 = .ok (.aload_n 0, 1) := by decide +kernel
theorem dX10_ways_15 : decode cX10_ways 15 = .ok (.getfield 30, 3) := by decide +kernel
theorem dX10_ways_18 : decode cX10_ways 18 = .ok (.iload_n 1, 1) := by decide +kernel
theorem dX10_ways_19 : decode cX10_ways 19 = .ok (.aload_n 0, 1) := by decide +kernel
theorem dX10_ways_20 : decode cX10_ways 20 = .ok (.getfield 20, 3) := by decide +kernel
theorem dX10_ways_23 : decode cX10_ways 23 = .ok (.getfield 128, 3) := by decide +kernel
theorem dX10_ways_26 : decode cX10_ways 26 = .ok (.invokevirtual 232, 3) := by decide +kernel
theorem dX10_ways_29 : decode cX10_ways 29 = .ok (.aload_n 0, 1) := by decide +kernel
theorem dX10_ways_30 : decode cX10_ways 30 = .ok (.getfield 59, 3) := by decide +kernel
theorem dX10_ways_33 : decode cX10_ways 33 = .ok (.getfield 243, 3) := by decide +kernel
theorem dX10_ways_36 : decode cX10_ways 36 = .ok (.ireturn, 1) := by decide +kernel
theorem dX10_within_0 : decode cX10_within 0 = .ok (.iload_n 1, 1) := by decide +kernel
theorem dX10_within_1 : decode cX10_within 1 = .ok (.ifCond .lt 14, 3) := by decide +kernel
theorem dX10_within_4 : decode cX10_within 4 = .ok (.iload_n 1, 1) := by decide +kernel
theorem dX10_within_5 : decode cX10_within 5 = .ok (.aload_n 0, 1) := by decide +kernel
theorem dX10_within_6 : decode cX10_within 6 = .ok (.getfield 30, 3) := by decide +kernel
theorem dX10_within_9 : decode cX10_within 9 = .ok (.invokevirtual 246, 3) := by decide +kernel
theorem dX10_within_12 : decode cX10_within 12 = .ok (.if_icmp .le 5, 3) := by decide +kernel
theorem dX10_within_15 : decode cX10_within 15 = .ok (.iconst (-1), 1) := by decide +kernel
theorem dX10_within_16 : decode cX10_within 16 = .ok (.ireturn, 1) := by decide +kernel
theorem dX10_within_17 : decode cX10_within 17 = .ok (.aload_n 0, 1) := by decide +kernel
theorem dX10_within_18 : decode cX10_within 18 = .ok (.getfield 59, 3) := by decide +kernel
theorem dX10_within_21 : decode cX10_within 21 = .ok (.aload_n 0, 1) := by decide +kernel
theorem dX10_within_22 : decode cX10_within 22 = .ok (.getfield 30, 3) := by decide +kernel
theorem dX10_within_25 : decode cX10_within 25 = .ok (.iload_n 1, 1) := by decide +kernel
theorem dX10_within_26 : decode cX10_within 26 = .ok (.aload_n 0, 1) := by decide +kernel
theorem dX10_within_27 : decode cX10_within 27 = .ok (.getfield 20, 3) := by decide +kernel
theorem dX10_within_30 : decode cX10_within 30 = .ok (.getfield 128, 3) := by decide +kernel
theorem dX10_within_33 : decode cX10_within 33 = .ok (.invokevirtual 249, 3) := by decide +kernel
theorem dX10_within_36 : decode cX10_within 36 = .ok (.aload_n 0, 1) := by decide +kernel
theorem dX10_within_37 : decode cX10_within 37 = .ok (.getfield 59, 3) := by decide +kernel
theorem dX10_within_40 : decode cX10_within 40 = .ok (.getfield 236, 3) := by decide +kernel
theorem dX10_within_43 : decode cX10_within 43 = .ok (.ireturn, 1) := by decide +kernel
theorem dX10_width_0 : decode cX10_width 0 = .ok (.iload_n 1, 1) := by decide +kernel
theorem dX10_width_1 : decode cX10_width 1 = .ok (.ifCond .lt 14, 3) := by decide +kernel
theorem dX10_width_4 : decode cX10_width 4 = .ok (.iload_n 1, 1) := by decide +kernel
theorem dX10_width_5 : decode cX10_width 5 = .ok (.aload_n 0, 1) := by decide +kernel
theorem dX10_width_6 : decode cX10_width 6 = .ok (.getfield 30, 3) := by decide +kernel
theorem dX10_width_9 : decode cX10_width 9 = .ok (.getfield 252, 3) := by decide +kernel
theorem dX10_width_12 : decode cX10_width 12 = .ok (.if_icmp .le 5, 3) := by decide +kernel
theorem dX10_width_15 : decode cX10_width 15 = .ok (.iconst (-1), 1) := by decide +kernel
theorem dX10_width_16 : decode cX10_width 16 = .ok (.ireturn, 1) := by decide +kernel
theorem dX10_width_17 : decode cX10_width 17 = .ok (.aload_n 0, 1) := by decide +kernel
theorem dX10_width_18 : decode cX10_width 18 = .ok (.getfield 66, 3) := by decide +kernel
theorem dX10_width_21 : decode cX10_width 21 = .ok (.aload_n 0, 1) := by decide +kernel
theorem dX10_width_22 : decode cX10_width 22 = .ok (.getfield 30, 3) := by decide +kernel
theorem dX10_width_25 : decode cX10_width 25 = .ok (.invokevirtual 255, 3) := by decide +kernel
theorem dX10_width_28 : decode cX10_width 28 = .ok (.iload_n 1, 1) := by decide +kernel
theorem dX10_width_29 : decode cX10_width 29 = .ok (.ifCond .ne 13, 3) := by decide +kernel
theorem dX10_width_32 : decode cX10_width 32 = .ok (.aload_n 0, 1) := by decide +kernel
theorem dX10_width_33 : decode cX10_width 33 = .ok (.getfield 66, 3) := by decide +kernel
theorem dX10_width_36 : decode cX10_width 36 = .ok (.invokevirtual 258, 3) := by decide +kernel
theorem dX10_width_39 : decode cX10_width 39 = .ok (.goto 17, 3) := by decide +kernel
theorem dX10_width_42 : decode cX10_width 42 = .ok (.aload_n 0, 1) := by decide +kernel
theorem dX10_width_43 : decode cX10_width 43 = .ok (.getfield 66, 3) := by decide +kernel
theorem dX10_width_46 : decode cX10_width 46 = .ok (.aload_n 0, 1) := by decide +kernel
theorem dX10_width_47 : decode cX10_width 47 = .ok (.getfield 30, 3) := by decide +kernel
theorem dX10_width_50 : decode cX10_width 50 = .ok (.iload_n 1, 1) := by decide +kernel
theorem dX10_width_51 : decode cX10_width 51 = .ok (.iconst 1, 1) := by decide +kernel
theorem dX10_width_52 : decode cX10_width 52 = .ok (.isub, 1) := by decide +kernel
theorem dX10_width_53 : decode cX10_width 53 = .ok (.invokevirtual 261, 3) := by decide +kernel
theorem dX10_width_56 : decode cX10_width 56 = .ok (.ireturn, 1) := by decide +kernel
theorem dX10_change_0 : decode cX10_change 0 = .ok (.aload_n 0, 1) := by decide +kernel
theorem dX10_change_1 : decode cX10_change 1 = .ok (.getfield 30, 3) := by decide +kernel
theorem dX10_change_4 : decode cX10_change 4 = .ok (.iload_n 1, 1) := by decide +kernel
theorem dX10_change_5 : decode cX10_change 5 = .ok (.invokevirtual 215, 3) := by decide +kernel
theorem dX10_change_8 : decode cX10_change 8 = .ok (.ifCond .eq 11, 3) := by decide +kernel
theorem dX10_change_11 : decode cX10_change 11 = .ok (.aload_n 0, 1) := by decide +kernel
theorem dX10_change_12 : decode cX10_change 12 = .ok (.iload_n 2, 1) := by decide +kernel
theorem dX10_change_13 : decode cX10_change 13 = .ok (.invokevirtual 156, 3) := by decide +kernel
theorem dX10_change_16 : decode cX10_change 16 = .ok (.ifCond .ne 5, 3) := by decide +kernel
theorem dX10_change_19 : decode cX10_change 19 = .ok (.iconst 0, 1) := by decide +kernel
theorem dX10_change_20 : decode cX10_change 20 = .ok (.ireturn, 1) := by decide +kernel
theorem dX10_change_21 : decode cX10_change 21 = .ok (.aload_n 0, 1) := by decide +kernel
theorem dX10_change_22 : decode cX10_change 22 = .ok (.getfield 37, 3) := by decide +kernel
theorem dX10_change_25 : decode cX10_change 25 = .ok (.aload_n 0, 1) := by decide +kernel
theorem dX10_change_26 : decode cX10_change 26 = .ok (.getfield 30, 3) := by decide +kernel
theorem dX10_change_29 : decode cX10_change 29 = .ok (.invokevirtual 265, 3) := by decide +kernel
theorem dX10_change_32 : decode cX10_change 32 = .ok (.aload_n 0, 1) := by decide +kernel
theorem dX10_change_33 : decode cX10_change 33 = .ok (.getfield 20, 3) := by decide +kernel
theorem dX10_change_36 : decode cX10_change 36 = .ok (.getfield 166, 3) := by decide +kernel
theorem dX10_change_39 : decode cX10_change 39 = .ok (.iload_n 2, 1) := by decide +kernel
theorem dX10_change_40 : decode cX10_change 40 = .ok (.aaload, 1) := by decide +kernel
theorem dX10_change_41 : decode cX10_change 41 = .ok (.astore_n 3, 1) := by decide +kernel
theorem dX10_change_42 : decode cX10_change 42 = .ok (.aload_n 0, 1) := by decide +kernel
theorem dX10_change_43 : decode cX10_change 43 = .ok (.aload_n 0, 1) := by decide +kernel
theorem dX10_change_44 : decode cX10_change 44 = .ok (.getfield 30, 3) := by decide +kernel
theorem dX10_change_47 : decode cX10_change 47 = .ok (.getfield 220, 3) := by decide +kernel
theorem dX10_change_50 : decode cX10_change 50 = .ok (.iconst 2, 1) := by decide +kernel
theorem dX10_change_51 : decode cX10_change 51 = .ok (.iload_n 1, 1) := by decide +kernel
theorem dX10_change_52 : decode cX10_change 52 = .ok (.imul, 1) := by decide +kernel
theorem dX10_change_53 : decode cX10_change 53 = .ok (.iaload, 1) := by decide +kernel
theorem dX10_change_54 : decode cX10_change 54 = .ok (.aload_n 3, 1) := by decide +kernel
theorem dX10_change_55 : decode cX10_change 55 = .ok (.invokevirtual 268, 3) := by decide +kernel
theorem dX10_change_58 : decode cX10_change 58 = .ok (.aload_n 0, 1) := by decide +kernel
theorem dX10_change_59 : decode cX10_change 59 = .ok (.getfield 87, 3) := by decide +kernel
theorem dX10_change_62 : decode cX10_change 62 = .ok (.aload_n 3, 1) := by decide +kernel
theorem dX10_change_63 : decode cX10_change 63 = .ok (.aload_n 0, 1) := by decide +kernel
theorem dX10_change_64 : decode cX10_change 64 = .ok (.getfield 20, 3) := by decide +kernel
theorem dX10_change_67 : decode cX10_change 67 = .ok (.getfield 128, 3) := by decide +kernel
theorem dX10_change_70 : decode cX10_change 70 = .ok (.invokevirtual 272, 3) := by decide +kernel
theorem dX10_change_73 : decode cX10_change 73 = .ok (.aload_n 0, 1) := by decide +kernel
theorem dX10_change_74 : decode cX10_change 74 = .ok (.aload_n 0, 1) := by decide +kernel
theorem dX10_change_75 : decode cX10_change 75 = .ok (.getfield 30, 3) := by decide +kernel
theorem dX10_change_78 : decode cX10_change 78 = .ok (.getfield 220, 3) := by decide +kernel
theorem dX10_change_81 : decode cX10_change 81 = .ok (.iconst 2, 1) := by decide +kernel
theorem dX10_change_82 : decode cX10_change 82 = .ok (.iload_n 1, 1) := by decide +kernel
theorem dX10_change_83 : decode cX10_change 83 = .ok (.imul, 1) := by decide +kernel
theorem dX10_change_84 : decode cX10_change 84 = .ok (.iconst 1, 1) := by decide +kernel
theorem dX10_change_85 : decode cX10_change 85 = .ok (.iadd, 1) := by decide +kernel
theorem dX10_change_86 : decode cX10_change 86 = .ok (.iaload, 1) := by decide +kernel
theorem dX10_change_87 : decode cX10_change 87 = .ok (.aload_n 0, 1) := by decide +kernel
theorem dX10_change_88 : decode cX10_change 88 = .ok (.getfield 87, 3) := by decide +kernel
theorem dX10_change_91 : decode cX10_change 91 = .ok (.invokevirtual 268, 3) := by decide +kernel
theorem dX10_change_94 : decode cX10_change 94 = .ok (.iconst 1, 1) := by decide +kernel
theorem dX10_change_95 : decode cX10_change 95 = .ok (.ireturn, 1) := by decide +kernel
theorem dX10_plug_0 : decode cX10_plug 0 = .ok (.aload_n 0, 1) := by decide +kernel
theorem dX10_plug_1 : decode cX10_plug 1 = .ok (.getfield 30, 3) := by decide +kernel
theorem dX10_plug_4 : decode cX10_plug 4 = .ok (.iload_n 1, 1) := by decide +kernel
theorem dX10_plug_5 : decode cX10_plug 5 = .ok (.invokevirtual 209, 3) := by decide +kernel
theorem dX10_plug_8 : decode cX10_plug 8 = .ok (.ifCond .eq 11, 3) := by decide +kernel
theorem dX10_plug_11 : decode cX10_plug 11 = .ok (.aload_n 0, 1) := by decide +kernel
theorem dX10_plug_12 : decode cX10_plug 12 = .ok (.iload_n 2, 1) := by decide +kernel
theorem dX10_plug_13 : decode cX10_plug 13 = .ok (.invokevirtual 109, 3) := by decide +kernel
theorem dX10_plug_16 : decode cX10_plug 16 = .ok (.ifCond .ne 5, 3) := by decide +kernel
theorem dX10_plug_19 : decode cX10_plug 19 = .ok (.iconst 0, 1) := by decide +kernel
theorem dX10_plug_20 : decode cX10_plug 20 = .ok (.ireturn, 1) := by decide +kernel
theorem dX10_plug_21 : decode cX10_plug 21 = .ok (.aload_n 0, 1) := by decide +kernel
theorem dX10_plug_22 : decode cX10_plug 22 = .ok (.getfield 30, 3) := by decide +kernel
theorem dX10_plug_25 : decode cX10_plug 25 = .ok (.getfield 212, 3) := by decide +kernel
theorem dX10_plug_28 : decode cX10_plug 28 = .ok (.iload_n 1, 1) := by decide +kernel
theorem dX10_plug_29 : decode cX10_plug 29 = .ok (.aaload, 1) := by decide +kernel
theorem dX10_plug_30 : decode cX10_plug 30 = .ok (.getfield 125, 3) := by decide +kernel
theorem dX10_plug_33 : decode cX10_plug 33 = .ok (.aload_n 0, 1) := by decide +kernel
theorem dX10_plug_34 : decode cX10_plug 34 = .ok (.getfield 20, 3) := by decide +kernel
theorem dX10_plug_37 : decode cX10_plug 37 = .ok (.getfield 113, 3) := by decide +kernel
theorem dX10_plug_40 : decode cX10_plug 40 = .ok (.iload_n 2, 1) := by decide +kernel
theorem dX10_plug_41 : decode cX10_plug 41 = .ok (.aaload, 1) := by decide +kernel
theorem dX10_plug_42 : decode cX10_plug 42 = .ok (.getfield 125, 3) := by decide +kernel
theorem dX10_plug_45 : decode cX10_plug 45 = .ok (.if_icmp .eq 5, 3) := by decide +kernel
theorem dX10_plug_48 : decode cX10_plug 48 = .ok (.iconst 0, 1) := by decide +kernel
theorem dX10_plug_49 : decode cX10_plug 49 = .ok (.ireturn, 1) := by decide +kernel
theorem dX10_plug_50 : decode cX10_plug 50 = .ok (.aload_n 0, 1) := by decide +kernel
theorem dX10_plug_51 : decode cX10_plug 51 = .ok (.getfield 37, 3) := by decide +kernel
theorem dX10_plug_54 : decode cX10_plug 54 = .ok (.aload_n 0, 1) := by decide +kernel
theorem dX10_plug_55 : decode cX10_plug 55 = .ok (.getfield 30, 3) := by decide +kernel
theorem dX10_plug_58 : decode cX10_plug 58 = .ok (.invokevirtual 265, 3) := by decide +kernel
theorem dX10_plug_61 : decode cX10_plug 61 = .ok (.aload_n 0, 1) := by decide +kernel
theorem dX10_plug_62 : decode cX10_plug 62 = .ok (.getfield 30, 3) := by decide +kernel
theorem dX10_plug_65 : decode cX10_plug 65 = .ok (.getfield 212, 3) := by decide +kernel
theorem dX10_plug_68 : decode cX10_plug 68 = .ok (.iload_n 1, 1) := by decide +kernel
theorem dX10_plug_69 : decode cX10_plug 69 = .ok (.aaload, 1) := by decide +kernel
theorem dX10_plug_70 : decode cX10_plug 70 = .ok (.aload_n 0, 1) := by decide +kernel
theorem dX10_plug_71 : decode cX10_plug 71 = .ok (.getfield 20, 3) := by decide +kernel
theorem dX10_plug_74 : decode cX10_plug 74 = .ok (.getfield 113, 3) := by decide +kernel
theorem dX10_plug_77 : decode cX10_plug 77 = .ok (.iload_n 2, 1) := by decide +kernel
theorem dX10_plug_78 : decode cX10_plug 78 = .ok (.aaload, 1) := by decide +kernel
theorem dX10_plug_79 : decode cX10_plug 79 = .ok (.invokevirtual 187, 3) := by decide +kernel
theorem dX10_plug_82 : decode cX10_plug 82 = .ok (.iconst 1, 1) := by decide +kernel
theorem dX10_plug_83 : decode cX10_plug 83 = .ok (.ireturn, 1) := by decide +kernel
theorem dX10_scale_0 : decode cX10_scale 0 = .ok (.aload_n 0, 1) := by decide +kernel
theorem dX10_scale_1 : decode cX10_scale 1 = .ok (.getfield 30, 3) := by decide +kernel
theorem dX10_scale_4 : decode cX10_scale 4 = .ok (.iload_n 1, 1) := by decide +kernel
theorem dX10_scale_5 : decode cX10_scale 5 = .ok (.invokevirtual 209, 3) := by decide +kernel
theorem dX10_scale_8 : decode cX10_scale 8 = .ok (.ifCond .eq 19, 3) := by decide +kernel
theorem dX10_scale_11 : decode cX10_scale 11 = .ok (.iload_n 2, 1) := by decide +kernel
theorem dX10_scale_12 : decode cX10_scale 12 = .ok (.iconst 1, 1) := by decide +kernel
theorem dX10_scale_13 : decode cX10_scale 13 = .ok (.if_icmp .lt 14, 3) := by decide +kernel
theorem dX10_scale_16 : decode cX10_scale 16 = .ok (.iload_n 2, 1) := by decide +kernel
theorem dX10_scale_17 : decode cX10_scale 17 = .ok (.aload_n 0, 1) := by decide +kernel
theorem dX10_scale_18 : decode cX10_scale 18 = .ok (.getfield 20, 3) := by decide +kernel
theorem dX10_scale_21 : decode cX10_scale 21 = .ok (.getfield 128, 3) := by decide +kernel
theorem dX10_scale_24 : decode cX10_scale 24 = .ok (.if_icmp .lt 5, 3) := by decide +kernel
theorem dX10_scale_27 : decode cX10_scale 27 = .ok (.iconst 0, 1) := by decide +kernel
theorem dX10_scale_28 : decode cX10_scale 28 = .ok (.ireturn, 1) := by decide +kernel
theorem dX10_scale_29 : decode cX10_scale 29 = .ok (.aload_n 0, 1) := by decide +kernel
theorem dX10_scale_30 : decode cX10_scale 30 = .ok (.getfield 37, 3) := by decide +kernel
theorem dX10_scale_33 : decode cX10_scale 33 = .ok (.aload_n 0, 1) := by decide +kernel
theorem dX10_scale_34 : decode cX10_scale 34 = .ok (.getfield 30, 3) := by decide +kernel
theorem dX10_scale_37 : decode cX10_scale 37 = .ok (.invokevirtual 265, 3) := by decide +kernel
theorem dX10_scale_40 : decode cX10_scale 40 = .ok (.aload_n 0, 1) := by decide +kernel
theorem dX10_scale_41 : decode cX10_scale 41 = .ok (.getfield 30, 3) := by decide +kernel
theorem dX10_scale_44 : decode cX10_scale 44 = .ok (.getfield 212, 3) := by decide +kernel
theorem dX10_scale_47 : decode cX10_scale 47 = .ok (.iload_n 1, 1) := by decide +kernel
theorem dX10_scale_48 : decode cX10_scale 48 = .ok (.aaload, 1) := by decide +kernel
theorem dX10_scale_49 : decode cX10_scale 49 = .ok (.iload_n 2, 1) := by decide +kernel
theorem dX10_scale_50 : decode cX10_scale 50 = .ok (.aload_n 0, 1) := by decide +kernel
theorem dX10_scale_51 : decode cX10_scale 51 = .ok (.getfield 20, 3) := by decide +kernel
theorem dX10_scale_54 : decode cX10_scale 54 = .ok (.getfield 128, 3) := by decide +kernel
theorem dX10_scale_57 : decode cX10_scale 57 = .ok (.invokevirtual 275, 3) := by decide +kernel
theorem dX10_scale_60 : decode cX10_scale 60 = .ok (.iconst 1, 1) := by decide +kernel
theorem dX10_scale_61 : decode cX10_scale 61 = .ok (.ireturn, 1) := by decide +kernel
theorem dX10_swap_0 : decode cX10_swap 0 = .ok (.aload_n 0, 1) := by decide +kernel
theorem dX10_swap_1 : decode cX10_swap 1 = .ok (.getfield 30, 3) := by decide +kernel
theorem dX10_swap_4 : decode cX10_swap 4 = .ok (.iload_n 1, 1) := by decide +kernel
theorem dX10_swap_5 : decode cX10_swap 5 = .ok (.iload_n 2, 1) := by decide +kernel
theorem dX10_swap_6 : decode cX10_swap 6 = .ok (.invokevirtual 279, 3) := by decide +kernel
theorem dX10_swap_9 : decode cX10_swap 9 = .ok (.ifCond .eq 20, 3) := by decide +kernel
theorem dX10_swap_12 : decode cX10_swap 12 = .ok (.aload_n 0, 1) := by decide +kernel
theorem dX10_swap_13 : decode cX10_swap 13 = .ok (.getfield 30, 3) := by decide +kernel
theorem dX10_swap_16 : decode cX10_swap 16 = .ok (.iload_n 1, 1) := by decide +kernel
theorem dX10_swap_17 : decode cX10_swap 17 = .ok (.iload_n 3, 1) := by decide +kernel
theorem dX10_swap_18 : decode cX10_swap 18 = .ok (.invokevirtual 279, 3) := by decide +kernel
theorem dX10_swap_21 : decode cX10_swap 21 = .ok (.ifCond .eq 8, 3) := by decide +kernel
theorem dX10_swap_24 : decode cX10_swap 24 = .ok (.iload_n 2, 1) := by decide +kernel
theorem dX10_swap_25 : decode cX10_swap 25 = .ok (.iload_n 3, 1) := by decide +kernel
theorem dX10_swap_26 : decode cX10_swap 26 = .ok (.if_icmp .ne 5, 3) := by decide +kernel
theorem dX10_swap_29 : decode cX10_swap 29 = .ok (.iconst 0, 1) := by decide +kernel
theorem dX10_swap_30 : decode cX10_swap 30 = .ok (.ireturn, 1) := by decide +kernel
theorem dX10_swap_31 : decode cX10_swap 31 = .ok (.aload_n 0, 1) := by decide +kernel
theorem dX10_swap_32 : decode cX10_swap 32 = .ok (.getfield 37, 3) := by decide +kernel
theorem dX10_swap_35 : decode cX10_swap 35 = .ok (.aload_n 0, 1) := by decide +kernel
theorem dX10_swap_36 : decode cX10_swap 36 = .ok (.getfield 30, 3) := by decide +kernel
theorem dX10_swap_39 : decode cX10_swap 39 = .ok (.invokevirtual 265, 3) := by decide +kernel
theorem dX10_swap_42 : decode cX10_swap 42 = .ok (.aload_n 0, 1) := by decide +kernel
theorem dX10_swap_43 : decode cX10_swap 43 = .ok (.getfield 30, 3) := by decide +kernel
theorem dX10_swap_46 : decode cX10_swap 46 = .ok (.getfield 212, 3) := by decide +kernel
theorem dX10_swap_49 : decode cX10_swap 49 = .ok (.iload_n 1, 1) := by decide +kernel
theorem dX10_swap_50 : decode cX10_swap 50 = .ok (.aaload, 1) := by decide +kernel
theorem dX10_swap_51 : decode cX10_swap 51 = .ok (.iload_n 2, 1) := by decide +kernel
theorem dX10_swap_52 : decode cX10_swap 52 = .ok (.iload_n 3, 1) := by decide +kernel
theorem dX10_swap_53 : decode cX10_swap 53 = .ok (.invokevirtual 283, 3) := by decide +kernel
theorem dX10_swap_56 : decode cX10_swap 56 = .ok (.iconst 1, 1) := by decide +kernel
theorem dX10_swap_57 : decode cX10_swap 57 = .ok (.ireturn, 1) := by decide +kernel
theorem dX10_join_0 : decode cX10_join 0 = .ok (.aload_n 0, 1) := by decide +kernel
theorem dX10_join_1 : decode cX10_join 1 = .ok (.getfield 30, 3) := by decide +kernel
theorem dX10_join_4 : decode cX10_join 4 = .ok (.iload_n 1, 1) := by decide +kernel
theorem dX10_join_5 : decode cX10_join 5 = .ok (.iload_n 2, 1) := by decide +kernel
theorem dX10_join_6 : decode cX10_join 6 = .ok (.invokevirtual 279, 3) := by decide +kernel
theorem dX10_join_9 : decode cX10_join 9 = .ok (.ifCond .eq 16, 3) := by decide +kernel
theorem dX10_join_12 : decode cX10_join 12 = .ok (.aload_n 0, 1) := by decide +kernel
theorem dX10_join_13 : decode cX10_join 13 = .ok (.getfield 30, 3) := by decide +kernel
theorem dX10_join_16 : decode cX10_join 16 = .ok (.iload_n 3, 1) := by decide +kernel
theorem dX10_join_17 : decode cX10_join 17 = .ok (.iload 4, 2) := by decide +kernel
theorem dX10_join_19 : decode cX10_join 19 = .ok (.invokevirtual 279, 3) := by decide +kernel
theorem dX10_join_22 : decode cX10_join 22 = .ok (.ifCond .ne 5, 3) := by decide +kernel
theorem dX10_join_25 : decode cX10_join 25 = .ok (.iconst (-1), 1) := by decide +kernel
theorem dX10_join_26 : decode cX10_join 26 = .ok (.ireturn, 1) := by decide +kernel
theorem dX10_join_27 : decode cX10_join 27 = .ok (.iconst 4, 1) := by decide +kernel
theorem dX10_join_28 : decode cX10_join 28 = .ok (.iload_n 1, 1) := by decide +kernel
theorem dX10_join_29 : decode cX10_join 29 = .ok (.imul, 1) := by decide +kernel
theorem dX10_join_30 : decode cX10_join 30 = .ok (.iload_n 2, 1) := by decide +kernel
theorem dX10_join_31 : decode cX10_join 31 = .ok (.iadd, 1) := by decide +kernel
theorem dX10_join_32 : decode cX10_join 32 = .ok (.istore 5, 2) := by decide +kernel
theorem dX10_join_34 : decode cX10_join 34 = .ok (.iconst 4, 1) := by decide +kernel
theorem dX10_join_35 : decode cX10_join 35 = .ok (.iload_n 3, 1) := by decide +kernel
theorem dX10_join_36 : decode cX10_join 36 = .ok (.imul, 1) := by decide +kernel
theorem dX10_join_37 : decode cX10_join 37 = .ok (.iload 4, 2) := by decide +kernel
theorem dX10_join_39 : decode cX10_join 39 = .ok (.iadd, 1) := by decide +kernel
theorem dX10_join_40 : decode cX10_join 40 = .ok (.istore 6, 2) := by decide +kernel
theorem dX10_join_42 : decode cX10_join 42 = .ok (.iload 5, 2) := by decide +kernel
theorem dX10_join_44 : decode cX10_join 44 = .ok (.iload 6, 2) := by decide +kernel
theorem dX10_join_46 : decode cX10_join 46 = .ok (.if_icmp .eq 39, 3) := by decide +kernel
theorem dX10_join_49 : decode cX10_join 49 = .ok (.aload_n 0, 1) := by decide +kernel
theorem dX10_join_50 : decode cX10_join 50 = .ok (.getfield 30, 3) := by decide +kernel
theorem dX10_join_53 : decode cX10_join 53 = .ok (.iload 5, 2) := by decide +kernel
theorem dX10_join_55 : decode cX10_join 55 = .ok (.invokevirtual 286, 3) := by decide +kernel
theorem dX10_join_58 : decode cX10_join 58 = .ok (.ifCond .ne 27, 3) := by decide +kernel
theorem dX10_join_61 : decode cX10_join 61 = .ok (.aload_n 0, 1) := by decide +kernel
theorem dX10_join_62 : decode cX10_join 62 = .ok (.getfield 30, 3) := by decide +kernel
theorem dX10_join_65 : decode cX10_join 65 = .ok (.iload 6, 2) := by decide +kernel
theorem dX10_join_67 : decode cX10_join 67 = .ok (.invokevirtual 286, 3) := by decide +kernel
theorem dX10_join_70 : decode cX10_join 70 = .ok (.ifCond .ne 15, 3) := by decide +kernel
theorem dX10_join_73 : decode cX10_join 73 = .ok (.aload_n 0, 1) := by decide +kernel
theorem dX10_join_74 : decode cX10_join 74 = .ok (.getfield 30, 3) := by decide +kernel
theorem dX10_join_77 : decode cX10_join 77 = .ok (.getfield 289, 3) := by decide +kernel
theorem dX10_join_80 : decode cX10_join 80 = .ok (.bipush 10, 2) := by decide +kernel
theorem dX10_join_82 : decode cX10_join 82 = .ok (.if_icmp .lt 5, 3) := by decide +kernel
theorem dX10_join_85 : decode cX10_join 85 = .ok (.iconst (-1), 1) := by decide +kernel
theorem dX10_join_86 : decode cX10_join 86 = .ok (.ireturn, 1) := by decide +kernel
theorem dX10_join_87 : decode cX10_join 87 = .ok (.aload_n 0, 1) := by decide +kernel
theorem dX10_join_88 : decode cX10_join 88 = .ok (.getfield 37, 3) := by decide +kernel
theorem dX10_join_91 : decode cX10_join 91 = .ok (.aload_n 0, 1) := by decide +kernel
theorem dX10_join_92 : decode cX10_join 92 = .ok (.getfield 30, 3) := by decide +kernel
theorem dX10_join_95 : decode cX10_join 95 = .ok (.invokevirtual 265, 3) := by decide +kernel
theorem dX10_join_98 : decode cX10_join 98 = .ok (.aload_n 0, 1) := by decide +kernel
theorem dX10_join_99 : decode cX10_join 99 = .ok (.getfield 30, 3) := by decide +kernel
theorem dX10_join_102 : decode cX10_join 102 = .ok (.iload 5, 2) := by decide +kernel
theorem dX10_join_104 : decode cX10_join 104 = .ok (.iload 6, 2) := by decide +kernel
theorem dX10_join_106 : decode cX10_join 106 = .ok (.invokevirtual 292, 3) := by decide +kernel
theorem dX10_join_109 : decode cX10_join 109 = .ok (.aload_n 0, 1) := by decide +kernel
theorem dX10_join_110 : decode cX10_join 110 = .ok (.getfield 30, 3) := by decide +kernel
theorem dX10_join_113 : decode cX10_join 113 = .ok (.getfield 289, 3) := by decide +kernel
theorem dX10_join_116 : decode cX10_join 116 = .ok (.iconst 1, 1) := by decide +kernel
theorem dX10_join_117 : decode cX10_join 117 = .ok (.isub, 1) := by decide +kernel
theorem dX10_join_118 : decode cX10_join 118 = .ok (.ireturn, 1) := by decide +kernel
theorem dX10_cut_0 : decode cX10_cut 0 = .ok (.aload_n 0, 1) := by decide +kernel
theorem dX10_cut_1 : decode cX10_cut 1 = .ok (.getfield 30, 3) := by decide +kernel
theorem dX10_cut_4 : decode cX10_cut 4 = .ok (.iload_n 1, 1) := by decide +kernel
theorem dX10_cut_5 : decode cX10_cut 5 = .ok (.invokevirtual 215, 3) := by decide +kernel
theorem dX10_cut_8 : decode cX10_cut 8 = .ok (.ifCond .ne 5, 3) := by decide +kernel
theorem dX10_cut_11 : decode cX10_cut 11 = .ok (.iconst (-1), 1) := by decide +kernel
theorem dX10_cut_12 : decode cX10_cut 12 = .ok (.ireturn, 1) := by decide +kernel
theorem dX10_cut_13 : decode cX10_cut 13 = .ok (.aload_n 0, 1) := by decide +kernel
theorem dX10_cut_14 : decode cX10_cut 14 = .ok (.getfield 37, 3) := by decide +kernel
theorem dX10_cut_17 : decode cX10_cut 17 = .ok (.aload_n 0, 1) := by decide +kernel
theorem dX10_cut_18 : decode cX10_cut 18 = .ok (.getfield 30, 3) := by decide +kernel
theorem dX10_cut_21 : decode cX10_cut 21 = .ok (.invokevirtual 265, 3) := by decide +kernel
theorem dX10_cut_24 : decode cX10_cut 24 = .ok (.aload_n 0, 1) := by decide +kernel
theorem dX10_cut_25 : decode cX10_cut 25 = .ok (.getfield 30, 3) := by decide +kernel
theorem dX10_cut_28 : decode cX10_cut 28 = .ok (.iload_n 1, 1) := by decide +kernel
theorem dX10_cut_29 : decode cX10_cut 29 = .ok (.invokevirtual 295, 3) := by decide +kernel
theorem dX10_cut_32 : decode cX10_cut 32 = .ok (.aload_n 0, 1) := by decide +kernel
theorem dX10_cut_33 : decode cX10_cut 33 = .ok (.getfield 30, 3) := by decide +kernel
theorem dX10_cut_36 : decode cX10_cut 36 = .ok (.getfield 289, 3) := by decide +kernel
theorem dX10_cut_39 : decode cX10_cut 39 = .ok (.ireturn, 1) := by decide +kernel
theorem dX10_undo_0 : decode cX10_undo 0 = .ok (.aload_n 0, 1) := by decide +kernel
theorem dX10_undo_1 : decode cX10_undo 1 = .ok (.getfield 37, 3) := by decide +kernel
theorem dX10_undo_4 : decode cX10_undo 4 = .ok (.getfield 298, 3) := by decide +kernel
theorem dX10_undo_7 : decode cX10_undo 7 = .ok (.ifCond .ne 5, 3) := by decide +kernel
theorem dX10_undo_10 : decode cX10_undo 10 = .ok (.iconst (-1), 1) := by decide +kernel
theorem dX10_undo_11 : decode cX10_undo 11 = .ok (.ireturn, 1) := by decide +kernel
theorem dX10_undo_12 : decode cX10_undo 12 = .ok (.aload_n 0, 1) := by decide +kernel
theorem dX10_undo_13 : decode cX10_undo 13 = .ok (.getfield 37, 3) := by decide +kernel
theorem dX10_undo_16 : decode cX10_undo 16 = .ok (.aload_n 0, 1) := by decide +kernel
theorem dX10_undo_17 : decode cX10_undo 17 = .ok (.getfield 30, 3) := by decide +kernel
theorem dX10_undo_20 : decode cX10_undo 20 = .ok (.invokevirtual 301, 3) := by decide +kernel
theorem dX10_undo_23 : decode cX10_undo 23 = .ok (.aload_n 0, 1) := by decide +kernel
theorem dX10_undo_24 : decode cX10_undo 24 = .ok (.getfield 37, 3) := by decide +kernel
theorem dX10_undo_27 : decode cX10_undo 27 = .ok (.getfield 298, 3) := by decide +kernel
theorem dX10_undo_30 : decode cX10_undo 30 = .ok (.ireturn, 1) := by decide +kernel
theorem dX10_keep_0 : decode cX10_keep 0 = .ok (.iload_n 1, 1) := by decide +kernel
theorem dX10_keep_1 : decode cX10_keep 1 = .ok (.ifCond .lt 8, 3) := by decide +kernel
theorem dX10_keep_4 : decode cX10_keep 4 = .ok (.iload_n 1, 1) := by decide +kernel
theorem dX10_keep_5 : decode cX10_keep 5 = .ok (.iconst 2, 1) := by decide +kernel
theorem dX10_keep_6 : decode cX10_keep 6 = .ok (.if_icmp .lt 5, 3) := by decide +kernel
theorem dX10_keep_9 : decode cX10_keep 9 = .ok (.iconst 0, 1) := by decide +kernel
theorem dX10_keep_10 : decode cX10_keep 10 = .ok (.ireturn, 1) := by decide +kernel
theorem dX10_keep_11 : decode cX10_keep 11 = .ok (.iload_n 2, 1) := by decide +kernel
theorem dX10_keep_12 : decode cX10_keep 12 = .ok (.ifCond .ne 25, 3) := by decide +kernel
theorem dX10_keep_15 : decode cX10_keep 15 = .ok (.aload_n 0, 1) := by decide +kernel
theorem dX10_keep_16 : decode cX10_keep 16 = .ok (.getfield 41, 3) := by decide +kernel
theorem dX10_keep_19 : decode cX10_keep 19 = .ok (.iload_n 1, 1) := by decide +kernel
theorem dX10_keep_20 : decode cX10_keep 20 = .ok (.aaload, 1) := by decide +kernel
theorem dX10_keep_21 : decode cX10_keep 21 = .ok (.aload_n 0, 1) := by decide +kernel
theorem dX10_keep_22 : decode cX10_keep 22 = .ok (.getfield 30, 3) := by decide +kernel
theorem dX10_keep_25 : decode cX10_keep 25 = .ok (.invokevirtual 102, 3) := by decide +kernel
theorem dX10_keep_28 : decode cX10_keep 28 = .ok (.aload_n 0, 1) := by decide +kernel
theorem dX10_keep_29 : decode cX10_keep 29 = .ok (.getfield 45, 3) := by decide +kernel
theorem dX10_keep_32 : decode cX10_keep 32 = .ok (.iload_n 1, 1) := by decide +kernel
theorem dX10_keep_33 : decode cX10_keep 33 = .ok (.iconst 1, 1) := by decide +kernel
theorem dX10_keep_34 : decode cX10_keep 34 = .ok (.bastore, 1) := by decide +kernel
theorem dX10_keep_35 : decode cX10_keep 35 = .ok (.iconst 1, 1) := by decide +kernel
theorem dX10_keep_36 : decode cX10_keep 36 = .ok (.ireturn, 1) := by decide +kernel
theorem dX10_keep_37 : decode cX10_keep 37 = .ok (.aload_n 0, 1) := by decide +kernel
theorem dX10_keep_38 : decode cX10_keep 38 = .ok (.getfield 45, 3) := by decide +kernel
theorem dX10_keep_41 : decode cX10_keep 41 = .ok (.iload_n 1, 1) := by decide +kernel
theorem dX10_keep_42 : decode cX10_keep 42 = .ok (.baload, 1) := by decide +kernel
theorem dX10_keep_43 : decode cX10_keep 43 = .ok (.ifCond .ne 5, 3) := by decide +kernel
theorem dX10_keep_46 : decode cX10_keep 46 = .ok (.iconst 0, 1) := by decide +kernel
theorem dX10_keep_47 : decode cX10_keep 47 = .ok (.ireturn, 1) := by decide +kernel
theorem dX10_keep_48 : decode cX10_keep 48 = .ok (.aload_n 0, 1) := by decide +kernel
theorem dX10_keep_49 : decode cX10_keep 49 = .ok (.getfield 30, 3) := by decide +kernel
theorem dX10_keep_52 : decode cX10_keep 52 = .ok (.aload_n 0, 1) := by decide +kernel
theorem dX10_keep_53 : decode cX10_keep 53 = .ok (.getfield 41, 3) := by decide +kernel
theorem dX10_keep_56 : decode cX10_keep 56 = .ok (.iload_n 1, 1) := by decide +kernel
theorem dX10_keep_57 : decode cX10_keep 57 = .ok (.aaload, 1) := by decide +kernel
theorem dX10_keep_58 : decode cX10_keep 58 = .ok (.invokevirtual 102, 3) := by decide +kernel
theorem dX10_keep_61 : decode cX10_keep 61 = .ok (.aload_n 0, 1) := by decide +kernel
theorem dX10_keep_62 : decode cX10_keep 62 = .ok (.getfield 37, 3) := by decide +kernel
theorem dX10_keep_65 : decode cX10_keep 65 = .ok (.invokevirtual 106, 3) := by decide +kernel
theorem dX10_keep_68 : decode cX10_keep 68 = .ok (.iconst 1, 1) := by decide +kernel
theorem dX10_keep_69 : decode cX10_keep 69 = .ok (.ireturn, 1) := by decide +kernel
theorem dX10_count_0 : decode cX10_count 0 = .ok (.iload_n 1, 1) := by decide +kernel
theorem dX10_count_1 : decode cX10_count 1 = .ok (.tableswitch 108 0 7 #[47, 55, 63, 71, 79, 87, 95, 103], 47) := by decide +kernel
theorem dX10_count_48 : decode cX10_count 48 = .ok (.aload_n 0, 1) := by decide +kernel
theorem dX10_count_49 : decode cX10_count 49 = .ok (.getfield 20, 3) := by decide +kernel
theorem dX10_count_52 : decode cX10_count 52 = .ok (.getfield 128, 3) := by decide +kernel
theorem dX10_count_55 : decode cX10_count 55 = .ok (.ireturn, 1) := by decide +kernel
theorem dX10_count_56 : decode cX10_count 56 = .ok (.aload_n 0, 1) := by decide +kernel
theorem dX10_count_57 : decode cX10_count 57 = .ok (.getfield 20, 3) := by decide +kernel
theorem dX10_count_60 : decode cX10_count 60 = .ok (.getfield 304, 3) := by decide +kernel
theorem dX10_count_63 : decode cX10_count 63 = .ok (.ireturn, 1) := by decide +kernel
theorem dX10_count_64 : decode cX10_count 64 = .ok (.aload_n 0, 1) := by decide +kernel
theorem dX10_count_65 : decode cX10_count 65 = .ok (.getfield 20, 3) := by decide +kernel
theorem dX10_count_68 : decode cX10_count 68 = .ok (.getfield 202, 3) := by decide +kernel
theorem dX10_count_71 : decode cX10_count 71 = .ok (.ireturn, 1) := by decide +kernel
theorem dX10_count_72 : decode cX10_count 72 = .ok (.aload_n 0, 1) := by decide +kernel
theorem dX10_count_73 : decode cX10_count 73 = .ok (.getfield 30, 3) := by decide +kernel
theorem dX10_count_76 : decode cX10_count 76 = .ok (.getfield 252, 3) := by decide +kernel
theorem dX10_count_79 : decode cX10_count 79 = .ok (.ireturn, 1) := by decide +kernel
theorem dX10_count_80 : decode cX10_count 80 = .ok (.aload_n 0, 1) := by decide +kernel
theorem dX10_count_81 : decode cX10_count 81 = .ok (.getfield 30, 3) := by decide +kernel
theorem dX10_count_84 : decode cX10_count 84 = .ok (.getfield 289, 3) := by decide +kernel
theorem dX10_count_87 : decode cX10_count 87 = .ok (.ireturn, 1) := by decide +kernel
theorem dX10_count_88 : decode cX10_count 88 = .ok (.aload_n 0, 1) := by decide +kernel
theorem dX10_count_89 : decode cX10_count 89 = .ok (.getfield 30, 3) := by decide +kernel
theorem dX10_count_92 : decode cX10_count 92 = .ok (.invokevirtual 223, 3) := by decide +kernel
theorem dX10_count_95 : decode cX10_count 95 = .ok (.ireturn, 1) := by decide +kernel
theorem dX10_count_96 : decode cX10_count 96 = .ok (.aload_n 0, 1) := by decide +kernel
theorem dX10_count_97 : decode cX10_count 97 = .ok (.getfield 37, 3) := by decide +kernel
theorem dX10_count_100 : decode cX10_count 100 = .ok (.getfield 298, 3) := by decide +kernel
theorem dX10_count_103 : decode cX10_count 103 = .ok (.ireturn, 1) := by decide +kernel
theorem dX10_count_104 : decode cX10_count 104 = .ok (.aload_n 0, 1) := by decide +kernel
theorem dX10_count_105 : decode cX10_count 105 = .ok (.getfield 13, 3) := by decide +kernel
theorem dX10_count_108 : decode cX10_count 108 = .ok (.ireturn, 1) := by decide +kernel
theorem dX10_count_109 : decode cX10_count 109 = .ok (.iconst (-1), 1) := by decide +kernel
theorem dX10_count_110 : decode cX10_count 110 = .ok (.ireturn, 1) := by decide +kernel
theorem dX10_layOnTape_0 : decode cX10_layOnTape 0 = .ok (.bipush 24, 2) := by decide +kernel
theorem dX10_layOnTape_2 : decode cX10_layOnTape 2 = .ok (.istore_n 2, 1) := by decide +kernel
theorem dX10_layOnTape_3 : decode cX10_layOnTape 3 = .ok (.iload_n 2, 1) := by decide +kernel
theorem dX10_layOnTape_4 : decode cX10_layOnTape 4 = .ok (.ifCond .lt 42, 3) := by decide +kernel
theorem dX10_layOnTape_7 : decode cX10_layOnTape 7 = .ok (.aload_n 0, 1) := by decide +kernel
theorem dX10_layOnTape_8 : decode cX10_layOnTape 8 = .ok (.getfield 13, 3) := by decide +kernel
theorem dX10_layOnTape_11 : decode cX10_layOnTape 11 = .ok (.sipush 700, 3) := by decide +kernel
theorem dX10_layOnTape_14 : decode cX10_layOnTape 14 = .ok (.if_icmp .ge 26, 3) := by decide +kernel
theorem dX10_layOnTape_17 : decode cX10_layOnTape 17 = .ok (.aload_n 0, 1) := by decide +kernel
theorem dX10_layOnTape_18 : decode cX10_layOnTape 18 = .ok (.getfield 9, 3) := by decide +kernel
theorem dX10_layOnTape_21 : decode cX10_layOnTape 21 = .ok (.aload_n 0, 1) := by decide +kernel
theorem dX10_layOnTape_22 : decode cX10_layOnTape 22 = .ok (.getfield 13, 3) := by decide +kernel
theorem dX10_layOnTape_25 : decode cX10_layOnTape 25 = .ok (.iload_n 1, 1) := by decide +kernel
theorem dX10_layOnTape_26 : decode cX10_layOnTape 26 = .ok (.iload_n 2, 1) := by decide +kernel
theorem dX10_layOnTape_27 : decode cX10_layOnTape 27 = .ok (.iushr, 1) := by decide +kernel
theorem dX10_layOnTape_28 : decode cX10_layOnTape 28 = .ok (.i2b, 1) := by decide +kernel
theorem dX10_layOnTape_29 : decode cX10_layOnTape 29 = .ok (.bastore, 1) := by decide +kernel
theorem dX10_layOnTape_30 : decode cX10_layOnTape 30 = .ok (.aload_n 0, 1) := by decide +kernel
theorem dX10_layOnTape_31 : decode cX10_layOnTape 31 = .ok (.dup, 1) := by decide +kernel
theorem dX10_layOnTape_32 : decode cX10_layOnTape 32 = .ok (.getfield 13, 3) := by decide +kernel
theorem dX10_layOnTape_35 : decode cX10_layOnTape 35 = .ok (.iconst 1, 1) := by decide +kernel
theorem dX10_layOnTape_36 : decode cX10_layOnTape 36 = .ok (.iadd, 1) := by decide +kernel
theorem dX10_layOnTape_37 : decode cX10_layOnTape 37 = .ok (.putfield 13, 3) := by decide +kernel
theorem dX10_layOnTape_40 : decode cX10_layOnTape 40 = .ok (.iinc 2 (-8), 3) := by decide +kernel
theorem dX10_layOnTape_43 : decode cX10_layOnTape 43 = .ok (.goto (-40), 3) := by decide +kernel
theorem dX10_layOnTape_46 : decode cX10_layOnTape 46 = .ok (.return_, 1) := by decide +kernel
theorem dX10_isTable_0 : decode cX10_isTable 0 = .ok (.iload_n 1, 1) := by decide +kernel
theorem dX10_isTable_1 : decode cX10_isTable 1 = .ok (.ifCond .lt 18, 3) := by decide +kernel
theorem dX10_isTable_4 : decode cX10_isTable 4 = .ok (.iload_n 1, 1) := by decide +kernel
theorem dX10_isTable_5 : decode cX10_isTable 5 = .ok (.aload_n 0, 1) := by decide +kernel
theorem dX10_isTable_6 : decode cX10_isTable 6 = .ok (.getfield 20, 3) := by decide +kernel
theorem dX10_isTable_9 : decode cX10_isTable 9 = .ok (.getfield 304, 3) := by decide +kernel
theorem dX10_isTable_12 : decode cX10_isTable 12 = .ok (.if_icmp .ge 7, 3) := by decide +kernel
theorem dX10_isTable_15 : decode cX10_isTable 15 = .ok (.iconst 1, 1) := by decide +kernel
theorem dX10_isTable_16 : decode cX10_isTable 16 = .ok (.goto 4, 3) := by decide +kernel
theorem dX10_isTable_19 : decode cX10_isTable 19 = .ok (.iconst 0, 1) := by decide +kernel
theorem dX10_isTable_20 : decode cX10_isTable 20 = .ok (.ireturn, 1) := by decide +kernel
theorem dX10_isBase_0 : decode cX10_isBase 0 = .ok (.iload_n 1, 1) := by decide +kernel
theorem dX10_isBase_1 : decode cX10_isBase 1 = .ok (.ifCond .lt 18, 3) := by decide +kernel
theorem dX10_isBase_4 : decode cX10_isBase 4 = .ok (.iload_n 1, 1) := by decide +kernel
theorem dX10_isBase_5 : decode cX10_isBase 5 = .ok (.aload_n 0, 1) := by decide +kernel
theorem dX10_isBase_6 : decode cX10_isBase 6 = .ok (.getfield 20, 3) := by decide +kernel
theorem dX10_isBase_9 : decode cX10_isBase 9 = .ok (.getfield 202, 3) := by decide +kernel
theorem dX10_isBase_12 : decode cX10_isBase 12 = .ok (.if_icmp .ge 7, 3) := by decide +kernel
theorem dX10_isBase_15 : decode cX10_isBase 15 = .ok (.iconst 1, 1) := by decide +kernel
theorem dX10_isBase_16 : decode cX10_isBase 16 = .ok (.goto 4, 3) := by decide +kernel
theorem dX10_isBase_19 : decode cX10_isBase 19 = .ok (.iconst 0, 1) := by decide +kernel
theorem dX10_isBase_20 : decode cX10_isBase 20 = .ok (.ireturn, 1) := by decide +kernel
theorem dX10_isOpenIndex_0 : decode cX10_isOpenIndex 0 = .ok (.iload_n 1, 1) := by decide +kernel
theorem dX10_isOpenIndex_1 : decode cX10_isOpenIndex 1 = .ok (.ifCond .lt 20, 3) := by decide +kernel
theorem dX10_isOpenIndex_4 : decode cX10_isOpenIndex 4 = .ok (.iload_n 1, 1) := by decide +kernel
theorem dX10_isOpenIndex_5 : decode cX10_isOpenIndex 5 = .ok (.iconst 1, 1) := by decide +kernel
theorem dX10_isOpenIndex_6 : decode cX10_isOpenIndex 6 = .ok (.aload_n 0, 1) := by decide +kernel
theorem dX10_isOpenIndex_7 : decode cX10_isOpenIndex 7 = .ok (.getfield 30, 3) := by decide +kernel
theorem dX10_isOpenIndex_10 : decode cX10_isOpenIndex 10 = .ok (.invokevirtual 223, 3) := by decide +kernel
theorem dX10_isOpenIndex_13 : decode cX10_isOpenIndex 13 = .ok (.ishl, 1) := by decide +kernel
theorem dX10_isOpenIndex_14 : decode cX10_isOpenIndex 14 = .ok (.if_icmp .ge 7, 3) := by decide +kernel
theorem dX10_isOpenIndex_17 : decode cX10_isOpenIndex 17 = .ok (.iconst 1, 1) := by decide +kernel
theorem dX10_isOpenIndex_18 : decode cX10_isOpenIndex 18 = .ok (.goto 4, 3) := by decide +kernel
theorem dX10_isOpenIndex_21 : decode cX10_isOpenIndex 21 = .ok (.iconst 0, 1) := by decide +kernel
theorem dX10_isOpenIndex_22 : decode cX10_isOpenIndex 22 = .ok (.ireturn, 1) := by decide +kernel
theorem dX10_valueOrLegs_0 : decode cX10_valueOrLegs 0 = .ok (.iload_n 1, 1) := by decide +kernel
theorem dX10_valueOrLegs_1 : decode cX10_valueOrLegs 1 = .ok (.iconst (-1), 1) := by decide +kernel
theorem dX10_valueOrLegs_2 : decode cX10_valueOrLegs 2 = .ok (.if_icmp .ne 8, 3) := by decide +kernel
theorem dX10_valueOrLegs_5 : decode cX10_valueOrLegs 5 = .ok (.aload_n 0, 1) := by decide +kernel
theorem dX10_valueOrLegs_6 : decode cX10_valueOrLegs 6 = .ok (.getfield 125, 3) := by decide +kernel
theorem dX10_valueOrLegs_9 : decode cX10_valueOrLegs 9 = .ok (.ireturn, 1) := by decide +kernel
theorem dX10_valueOrLegs_10 : decode cX10_valueOrLegs 10 = .ok (.aload_n 0, 1) := by decide +kernel
theorem dX10_valueOrLegs_11 : decode cX10_valueOrLegs 11 = .ok (.iload_n 1, 1) := by decide +kernel
theorem dX10_valueOrLegs_12 : decode cX10_valueOrLegs 12 = .ok (.invokevirtual 145, 3) := by decide +kernel
theorem dX10_valueOrLegs_15 : decode cX10_valueOrLegs 15 = .ok (.ifCond .eq 12, 3) := by decide +kernel
theorem dX10_valueOrLegs_18 : decode cX10_valueOrLegs 18 = .ok (.aload_n 0, 1) := by decide +kernel
theorem dX10_valueOrLegs_19 : decode cX10_valueOrLegs 19 = .ok (.getfield 194, 3) := by decide +kernel
theorem dX10_valueOrLegs_22 : decode cX10_valueOrLegs 22 = .ok (.iload_n 1, 1) := by decide +kernel
theorem dX10_valueOrLegs_23 : decode cX10_valueOrLegs 23 = .ok (.iaload, 1) := by decide +kernel
theorem dX10_valueOrLegs_24 : decode cX10_valueOrLegs 24 = .ok (.goto 5, 3) := by decide +kernel
theorem dX10_valueOrLegs_27 : decode cX10_valueOrLegs 27 = .ok (.bipush (-2), 2) := by decide +kernel
theorem dX10_valueOrLegs_29 : decode cX10_valueOrLegs 29 = .ok (.ireturn, 1) := by decide +kernel
theorem dX10_isMadeBy_0 : decode cX10_isMadeBy 0 = .ok (.aload_n 0, 1) := by decide +kernel
theorem dX10_isMadeBy_1 : decode cX10_isMadeBy 1 = .ok (.getfield 80, 3) := by decide +kernel
theorem dX10_isMadeBy_4 : decode cX10_isMadeBy 4 = .ok (.aload_n 1, 1) := by decide +kernel
theorem dX10_isMadeBy_5 : decode cX10_isMadeBy 5 = .ok (.invokevirtual 187, 3) := by decide +kernel
theorem dX10_isMadeBy_8 : decode cX10_isMadeBy 8 = .ok (.aload_n 0, 1) := by decide +kernel
theorem dX10_isMadeBy_9 : decode cX10_isMadeBy 9 = .ok (.getfield 80, 3) := by decide +kernel
theorem dX10_isMadeBy_12 : decode cX10_isMadeBy 12 = .ok (.aload_n 2, 1) := by decide +kernel
theorem dX10_isMadeBy_13 : decode cX10_isMadeBy 13 = .ok (.aload_n 0, 1) := by decide +kernel
theorem dX10_isMadeBy_14 : decode cX10_isMadeBy 14 = .ok (.getfield 20, 3) := by decide +kernel
theorem dX10_isMadeBy_17 : decode cX10_isMadeBy 17 = .ok (.getfield 128, 3) := by decide +kernel
theorem dX10_isMadeBy_20 : decode cX10_isMadeBy 20 = .ok (.invokevirtual 190, 3) := by decide +kernel
theorem dX10_isMadeBy_23 : decode cX10_isMadeBy 23 = .ok (.aload_n 0, 1) := by decide +kernel
theorem dX10_isMadeBy_24 : decode cX10_isMadeBy 24 = .ok (.getfield 80, 3) := by decide +kernel
theorem dX10_isMadeBy_27 : decode cX10_isMadeBy 27 = .ok (.aload_n 0, 1) := by decide +kernel
theorem dX10_isMadeBy_28 : decode cX10_isMadeBy 28 = .ok (.getfield 20, 3) := by decide +kernel
theorem dX10_isMadeBy_31 : decode cX10_isMadeBy 31 = .ok (.getfield 128, 3) := by decide +kernel
theorem dX10_isMadeBy_34 : decode cX10_isMadeBy 34 = .ok (.invokevirtual 135, 3) := by decide +kernel
theorem dX10_isMadeBy_37 : decode cX10_isMadeBy 37 = .ok (.ireturn, 1) := by decide +kernel
theorem dX10_isMadeByRow_0 : decode cX10_isMadeByRow 0 = .ok (.aload_n 0, 1) := by decide +kernel
theorem dX10_isMadeByRow_1 : decode cX10_isMadeByRow 1 = .ok (.getfield 87, 3) := by decide +kernel
theorem dX10_isMadeByRow_4 : decode cX10_isMadeByRow 4 = .ok (.iconst 1, 1) := by decide +kernel
theorem dX10_isMadeByRow_5 : decode cX10_isMadeByRow 5 = .ok (.putfield 170, 3) := by decide +kernel
theorem dX10_isMadeByRow_8 : decode cX10_isMadeByRow 8 = .ok (.aload_n 0, 1) := by decide +kernel
theorem dX10_isMadeByRow_9 : decode cX10_isMadeByRow 9 = .ok (.getfield 87, 3) := by decide +kernel
theorem dX10_isMadeByRow_12 : decode cX10_isMadeByRow 12 = .ok (.iconst 1, 1) := by decide +kernel
theorem dX10_isMadeByRow_13 : decode cX10_isMadeByRow 13 = .ok (.putfield 173, 3) := by decide +kernel
theorem dX10_isMadeByRow_16 : decode cX10_isMadeByRow 16 = .ok (.aload_n 0, 1) := by decide +kernel
theorem dX10_isMadeByRow_17 : decode cX10_isMadeByRow 17 = .ok (.getfield 87, 3) := by decide +kernel
theorem dX10_isMadeByRow_20 : decode cX10_isMadeByRow 20 = .ok (.iload_n 2, 1) := by decide +kernel
theorem dX10_isMadeByRow_21 : decode cX10_isMadeByRow 21 = .ok (.putfield 176, 3) := by decide +kernel
theorem dX10_isMadeByRow_24 : decode cX10_isMadeByRow 24 = .ok (.aload_n 0, 1) := by decide +kernel
theorem dX10_isMadeByRow_25 : decode cX10_isMadeByRow 25 = .ok (.getfield 87, 3) := by decide +kernel
theorem dX10_isMadeByRow_28 : decode cX10_isMadeByRow 28 = .ok (.iload_n 3, 1) := by decide +kernel
theorem dX10_isMadeByRow_29 : decode cX10_isMadeByRow 29 = .ok (.putfield 179, 3) := by decide +kernel
theorem dX10_isMadeByRow_32 : decode cX10_isMadeByRow 32 = .ok (.aload_n 0, 1) := by decide +kernel
theorem dX10_isMadeByRow_33 : decode cX10_isMadeByRow 33 = .ok (.aload_n 1, 1) := by decide +kernel
theorem dX10_isMadeByRow_34 : decode cX10_isMadeByRow 34 = .ok (.aload_n 0, 1) := by decide +kernel
theorem dX10_isMadeByRow_35 : decode cX10_isMadeByRow 35 = .ok (.getfield 87, 3) := by decide +kernel
theorem dX10_isMadeByRow_38 : decode cX10_isMadeByRow 38 = .ok (.invokevirtual 198, 3) := by decide +kernel
theorem dX10_isMadeByRow_41 : decode cX10_isMadeByRow 41 = .ok (.ireturn, 1) := by decide +kernel
theorem dX10_changeLegOfNet_0 : decode cX10_changeLegOfNet 0 = .ok (.aload_n 0, 1) := by decide +kernel
theorem dX10_changeLegOfNet_1 : decode cX10_changeLegOfNet 1 = .ok (.getfield 30, 3) := by decide +kernel
theorem dX10_changeLegOfNet_4 : decode cX10_changeLegOfNet 4 = .ok (.getfield 212, 3) := by decide +kernel
theorem dX10_changeLegOfNet_7 : decode cX10_changeLegOfNet 7 = .ok (.iload_n 1, 1) := by decide +kernel
theorem dX10_changeLegOfNet_8 : decode cX10_changeLegOfNet 8 = .ok (.iconst 4, 1) := by decide +kernel
theorem dX10_changeLegOfNet_9 : decode cX10_changeLegOfNet 9 = .ok (.idiv, 1) := by decide +kernel
theorem dX10_changeLegOfNet_10 : decode cX10_changeLegOfNet 10 = .ok (.aaload, 1) := by decide +kernel
theorem dX10_changeLegOfNet_11 : decode cX10_changeLegOfNet 11 = .ok (.iload_n 1, 1) := by decide +kernel
theorem dX10_changeLegOfNet_12 : decode cX10_changeLegOfNet 12 = .ok (.iconst 4, 1) := by decide +kernel
theorem dX10_changeLegOfNet_13 : decode cX10_changeLegOfNet 13 = .ok (.irem, 1) := by decide +kernel
theorem dX10_changeLegOfNet_14 : decode cX10_changeLegOfNet 14 = .ok (.aload_n 2, 1) := by decide +kernel
theorem dX10_changeLegOfNet_15 : decode cX10_changeLegOfNet 15 = .ok (.aload_n 0, 1) := by decide +kernel
theorem dX10_changeLegOfNet_16 : decode cX10_changeLegOfNet 16 = .ok (.getfield 20, 3) := by decide +kernel
theorem dX10_changeLegOfNet_19 : decode cX10_changeLegOfNet 19 = .ok (.getfield 128, 3) := by decide +kernel
theorem dX10_changeLegOfNet_22 : decode cX10_changeLegOfNet 22 = .ok (.invokevirtual 307, 3) := by decide +kernel
theorem dX10_changeLegOfNet_25 : decode cX10_changeLegOfNet 25 = .ok (.return_, 1) := by decide +kernel
theorem dX10_mod_0 : decode cX10_mod 0 = .ok (.iload_n 1, 1) := by decide +kernel
theorem dX10_mod_1 : decode cX10_mod 1 = .ok (.ifCond .le 11, 3) := by decide +kernel
theorem dX10_mod_4 : decode cX10_mod 4 = .ok (.iload_n 0, 1) := by decide +kernel
theorem dX10_mod_5 : decode cX10_mod 5 = .ok (.iload_n 1, 1) := by decide +kernel
theorem dX10_mod_6 : decode cX10_mod 6 = .ok (.invokestatic 311, 3) := by decide +kernel
theorem dX10_mod_9 : decode cX10_mod 9 = .ok (.goto 4, 3) := by decide +kernel
theorem dX10_mod_12 : decode cX10_mod 12 = .ok (.iconst 0, 1) := by decide +kernel
theorem dX10_mod_13 : decode cX10_mod 13 = .ok (.ireturn, 1) := by decide +kernel
theorem dX11_init_0 : decode cX11_init 0 = .ok (.aload_n 0, 1) := by decide +kernel
theorem dX11_init_1 : decode cX11_init 1 = .ok (.invokespecial 1, 3) := by decide +kernel
theorem dX11_init_4 : decode cX11_init 4 = .ok (.aload_n 0, 1) := by decide +kernel
theorem dX11_init_5 : decode cX11_init 5 = .ok (.sipush 700, 3) := by decide +kernel
theorem dX11_init_8 : decode cX11_init 8 = .ok (.newarray .byte, 2) := by decide +kernel
theorem dX11_init_10 : decode cX11_init 10 = .ok (.putfield 7, 3) := by decide +kernel
theorem dX11_init_13 : decode cX11_init 13 = .ok (.aload_n 0, 1) := by decide +kernel
theorem dX11_init_14 : decode cX11_init 14 = .ok (.iconst 2, 1) := by decide +kernel
theorem dX11_init_15 : decode cX11_init 15 = .ok (.newarray .int, 2) := by decide +kernel
theorem dX11_init_17 : decode cX11_init 17 = .ok (.putfield 13, 3) := by decide +kernel
theorem dX11_init_20 : decode cX11_init 20 = .ok (.aload_n 0, 1) := by decide +kernel
theorem dX11_init_21 : decode cX11_init 21 = .ok (.iconst 2, 1) := by decide +kernel
theorem dX11_init_22 : decode cX11_init 22 = .ok (.newarray .int, 2) := by decide +kernel
theorem dX11_init_24 : decode cX11_init 24 = .ok (.putfield 17, 3) := by decide +kernel
theorem dX11_init_27 : decode cX11_init 27 = .ok (.aload_n 0, 1) := by decide +kernel
theorem dX11_init_28 : decode cX11_init 28 = .ok (.iconst 2, 1) := by decide +kernel
theorem dX11_init_29 : decode cX11_init 29 = .ok (.newarray .int, 2) := by decide +kernel
theorem dX11_init_31 : decode cX11_init 31 = .ok (.putfield 20, 3) := by decide +kernel
theorem dX11_init_34 : decode cX11_init 34 = .ok (.aload_n 0, 1) := by decide +kernel
theorem dX11_init_35 : decode cX11_init 35 = .ok (.iconst 2, 1) := by decide +kernel
theorem dX11_init_36 : decode cX11_init 36 = .ok (.newarray .int, 2) := by decide +kernel
theorem dX11_init_38 : decode cX11_init 38 = .ok (.putfield 23, 3) := by decide +kernel
theorem dX11_init_41 : decode cX11_init 41 = .ok (.aload_n 0, 1) := by decide +kernel
theorem dX11_init_42 : decode cX11_init 42 = .ok (.bipush 16, 2) := by decide +kernel
theorem dX11_init_44 : decode cX11_init 44 = .ok (.newarray .long, 2) := by decide +kernel
theorem dX11_init_46 : decode cX11_init 46 = .ok (.putfield 26, 3) := by decide +kernel
theorem dX11_init_49 : decode cX11_init 49 = .ok (.aload_n 0, 1) := by decide +kernel
theorem dX11_init_50 : decode cX11_init 50 = .ok (.bipush 10, 2) := by decide +kernel
theorem dX11_init_52 : decode cX11_init 52 = .ok (.newarray .long, 2) := by decide +kernel
theorem dX11_init_54 : decode cX11_init 54 = .ok (.putfield 30, 3) := by decide +kernel
theorem dX11_init_57 : decode cX11_init 57 = .ok (.aload_n 0, 1) := by decide +kernel
theorem dX11_init_58 : decode cX11_init 58 = .ok (.bipush 12, 2) := by decide +kernel
theorem dX11_init_60 : decode cX11_init 60 = .ok (.newarray .long, 2) := by decide +kernel
theorem dX11_init_62 : decode cX11_init 62 = .ok (.putfield 33, 3) := by decide +kernel
theorem dX11_init_65 : decode cX11_init 65 = .ok (.aload_n 0, 1) := by decide +kernel
theorem dX11_init_66 : decode cX11_init 66 = .ok (.bipush 16, 2) := by decide +kernel
theorem dX11_init_68 : decode cX11_init 68 = .ok (.newarray .int, 2) := by decide +kernel
theorem dX11_init_70 : decode cX11_init 70 = .ok (.putfield 36, 3) := by decide +kernel
theorem dX11_init_73 : decode cX11_init 73 = .ok (.aload_n 0, 1) := by decide +kernel
theorem dX11_init_74 : decode cX11_init 74 = .ok (.sipush 256, 3) := by decide +kernel
theorem dX11_init_77 : decode cX11_init 77 = .ok (.newarray .int, 2) := by decide +kernel
theorem dX11_init_79 : decode cX11_init 79 = .ok (.putfield 39, 3) := by decide +kernel
theorem dX11_init_82 : decode cX11_init 82 = .ok (.aload_n 0, 1) := by decide +kernel
theorem dX11_init_83 : decode cX11_init 83 = .ok (.bipush 40, 2) := by decide +kernel
theorem dX11_init_85 : decode cX11_init 85 = .ok (.newarray .int, 2) := by decide +kernel
theorem dX11_init_87 : decode cX11_init 87 = .ok (.putfield 42, 3) := by decide +kernel
theorem dX11_init_90 : decode cX11_init 90 = .ok (.aload_n 0, 1) := by decide +kernel
theorem dX11_init_91 : decode cX11_init 91 = .ok (.bipush 12, 2) := by decide +kernel
theorem dX11_init_93 : decode cX11_init 93 = .ok (.newarray .int, 2) := by decide +kernel
theorem dX11_init_95 : decode cX11_init 95 = .ok (.putfield 45, 3) := by decide +kernel
theorem dX11_init_98 : decode cX11_init 98 = .ok (.aload_n 0, 1) := by decide +kernel
theorem dX11_init_99 : decode cX11_init 99 = .ok (.bipush 20, 2) := by decide +kernel
theorem dX11_init_101 : decode cX11_init 101 = .ok (.newarray .int, 2) := by decide +kernel
theorem dX11_init_103 : decode cX11_init 103 = .ok (.putfield 48, 3) := by decide +kernel
theorem dX11_init_106 : decode cX11_init 106 = .ok (.aload_n 0, 1) := by decide +kernel
theorem dX11_init_107 : decode cX11_init 107 = .ok (.bipush 64, 2) := by decide +kernel
theorem dX11_init_109 : decode cX11_init 109 = .ok (.newarray .int, 2) := by decide +kernel
theorem dX11_init_111 : decode cX11_init 111 = .ok (.putfield 51, 3) := by decide +kernel
theorem dX11_init_114 : decode cX11_init 114 = .ok (.aload_n 0, 1) := by decide +kernel
theorem dX11_init_115 : decode cX11_init 115 = .ok (.sipush 256, 3) := by decide +kernel
theorem dX11_init_118 : decode cX11_init 118 = .ok (.newarray .int, 2) := by decide +kernel
theorem dX11_init_120 : decode cX11_init 120 = .ok (.putfield 54, 3) := by decide +kernel
theorem dX11_init_123 : decode cX11_init 123 = .ok (.aload_n 0, 1) := by decide +kernel
theorem dX11_init_124 : decode cX11_init 124 = .ok (.bipush 117, 2) := by decide +kernel
theorem dX11_init_126 : decode cX11_init 126 = .ok (.newarray .int, 2) := by decide +kernel
theorem dX11_init_128 : decode cX11_init 128 = .ok (.putfield 57, 3) := by decide +kernel
theorem dX11_init_131 : decode cX11_init 131 = .ok (.aload_n 0, 1) := by decide +kernel
theorem dX11_init_132 : decode cX11_init 132 = .ok (.sipush 1404, 3) := by decide +kernel
theorem dX11_init_135 : decode cX11_init 135 = .ok (.newarray .int, 2) := by decide +kernel
theorem dX11_init_137 : decode cX11_init 137 = .ok (.putfield 60, 3) := by decide +kernel
theorem dX11_init_140 : decode cX11_init 140 = .ok (.aload_n 0, 1) := by decide +kernel
theorem dX11_init_141 : decode cX11_init 141 = .ok (.sipush 234, 3) := by decide +kernel
theorem dX11_init_144 : decode cX11_init 144 = .ok (.newarray .int, 2) := by decide +kernel
theorem dX11_init_146 : decode cX11_init 146 = .ok (.putfield 63, 3) := by decide +kernel
theorem dX11_init_149 : decode cX11_init 149 = .ok (.aload_n 0, 1) := by decide +kernel
theorem dX11_init_150 : decode cX11_init 150 = .ok (.iconst 2, 1) := by decide +kernel
theorem dX11_init_151 : decode cX11_init 151 = .ok (.newarray .boolean, 2) := by decide +kernel
theorem dX11_init_153 : decode cX11_init 153 = .ok (.putfield 66, 3) := by decide +kernel
theorem dX11_init_156 : decode cX11_init 156 = .ok (.aload_n 0, 1) := by decide +kernel
theorem dX11_init_157 : decode cX11_init 157 = .ok (.bipush 16, 2) := by decide +kernel
theorem dX11_init_159 : decode cX11_init 159 = .ok (.newarray .int, 2) := by decide +kernel
theorem dX11_init_161 : decode cX11_init 161 = .ok (.putfield 70, 3) := by decide +kernel
theorem dX11_init_164 : decode cX11_init 164 = .ok (.aload_n 0, 1) := by decide +kernel
theorem dX11_init_165 : decode cX11_init 165 = .ok (.sipush 256, 3) := by decide +kernel
theorem dX11_init_168 : decode cX11_init 168 = .ok (.newarray .int, 2) := by decide +kernel
theorem dX11_init_170 : decode cX11_init 170 = .ok (.putfield 73, 3) := by decide +kernel
theorem dX11_init_173 : decode cX11_init 173 = .ok (.aload_n 0, 1) := by decide +kernel
theorem dX11_init_174 : decode cX11_init 174 = .ok (.bipush 24, 2) := by decide +kernel
theorem dX11_init_176 : decode cX11_init 176 = .ok (.newarray .int, 2) := by decide +kernel
theorem dX11_init_178 : decode cX11_init 178 = .ok (.putfield 76, 3) := by decide +kernel
theorem dX11_init_181 : decode cX11_init 181 = .ok (.aload_n 0, 1) := by decide +kernel
theorem dX11_init_182 : decode cX11_init 182 = .ok (.bipush 24, 2) := by decide +kernel
theorem dX11_init_184 : decode cX11_init 184 = .ok (.newarray .int, 2) := by decide +kernel
theorem dX11_init_186 : decode cX11_init 186 = .ok (.putfield 79, 3) := by decide +kernel
theorem dX11_init_189 : decode cX11_init 189 = .ok (.aload_n 0, 1) := by decide +kernel
theorem dX11_init_190 : decode cX11_init 190 = .ok (.bipush 6, 2) := by decide +kernel
theorem dX11_init_192 : decode cX11_init 192 = .ok (.newarray .int, 2) := by decide +kernel
theorem dX11_init_194 : decode cX11_init 194 = .ok (.putfield 82, 3) := by decide +kernel
theorem dX11_init_197 : decode cX11_init 197 = .ok (.aload_n 0, 1) := by decide +kernel
theorem dX11_init_198 : decode cX11_init 198 = .ok (.bipush 6, 2) := by decide +kernel
theorem dX11_init_200 : decode cX11_init 200 = .ok (.newarray .int, 2) := by decide +kernel
theorem dX11_init_202 : decode cX11_init 202 = .ok (.putfield 85, 3) := by decide +kernel
theorem dX11_init_205 : decode cX11_init 205 = .ok (.aload_n 0, 1) := by decide +kernel
theorem dX11_init_206 : decode cX11_init 206 = .ok (.getfield 13, 3) := by decide +kernel
theorem dX11_init_209 : decode cX11_init 209 = .ok (.iconst 0, 1) := by decide +kernel
theorem dX11_init_210 : decode cX11_init 210 = .ok (.bipush 7, 2) := by decide +kernel
theorem dX11_init_212 : decode cX11_init 212 = .ok (.iastore, 1) := by decide +kernel
theorem dX11_init_213 : decode cX11_init 213 = .ok (.aload_n 0, 1) := by decide +kernel
theorem dX11_init_214 : decode cX11_init 214 = .ok (.getfield 13, 3) := by decide +kernel
theorem dX11_init_217 : decode cX11_init 217 = .ok (.iconst 1, 1) := by decide +kernel
theorem dX11_init_218 : decode cX11_init 218 = .ok (.bipush 7, 2) := by decide +kernel
theorem dX11_init_220 : decode cX11_init 220 = .ok (.iastore, 1) := by decide +kernel
theorem dX11_init_221 : decode cX11_init 221 = .ok (.return_, 1) := by decide +kernel
theorem dX11_thrown_0 : decode cX11_thrown 0 = .ok (.aload_n 0, 1) := by decide +kernel
theorem dX11_thrown_1 : decode cX11_thrown 1 = .ok (.getfield 88, 3) := by decide +kernel
theorem dX11_thrown_4 : decode cX11_thrown 4 = .ok (.ireturn, 1) := by decide +kernel
theorem dX11_within_0 : decode cX11_within 0 = .ok (.lload_n 0, 1) := by decide +kernel
theorem dX11_within_1 : decode cX11_within 1 = .ok (.lload_n 2, 1) := by decide +kernel
theorem dX11_within_2 : decode cX11_within 2 = .ok (.lcmp, 1) := by decide +kernel
theorem dX11_within_3 : decode cX11_within 3 = .ok (.ifCond .lt 14, 3) := by decide +kernel
theorem dX11_within_6 : decode cX11_within 6 = .ok (.lload_n 0, 1) := by decide +kernel
theorem dX11_within_7 : decode cX11_within 7 = .ok (.lload 4, 2) := by decide +kernel
theorem dX11_within_9 : decode cX11_within 9 = .ok (.lcmp, 1) := by decide +kernel
theorem dX11_within_10 : decode cX11_within 10 = .ok (.ifCond .gt 7, 3) := by decide +kernel
theorem dX11_within_13 : decode cX11_within 13 = .ok (.iconst 1, 1) := by decide +kernel
theorem dX11_within_14 : decode cX11_within 14 = .ok (.goto 4, 3) := by decide +kernel
theorem dX11_within_17 : decode cX11_within 17 = .ok (.iconst 0, 1) := by decide +kernel
theorem dX11_within_18 : decode cX11_within 18 = .ok (.ireturn, 1) := by decide +kernel
theorem dX11_puts_0 : decode cX11_puts 0 = .ok (.bipush 24, 2) := by decide +kernel
theorem dX11_puts_2 : decode cX11_puts 2 = .ok (.istore_n 2, 1) := by decide +kernel
theorem dX11_puts_3 : decode cX11_puts 3 = .ok (.iload_n 2, 1) := by decide +kernel
theorem dX11_puts_4 : decode cX11_puts 4 = .ok (.ifCond .lt 32, 3) := by decide +kernel
theorem dX11_puts_7 : decode cX11_puts 7 = .ok (.aload_n 0, 1) := by decide +kernel
theorem dX11_puts_8 : decode cX11_puts 8 = .ok (.getfield 7, 3) := by decide +kernel
theorem dX11_puts_11 : decode cX11_puts 11 = .ok (.aload_n 0, 1) := by decide +kernel
theorem dX11_puts_12 : decode cX11_puts 12 = .ok (.getfield 92, 3) := by decide +kernel
theorem dX11_puts_15 : decode cX11_puts 15 = .ok (.iload_n 1, 1) := by decide +kernel
theorem dX11_puts_16 : decode cX11_puts 16 = .ok (.iload_n 2, 1) := by decide +kernel
theorem dX11_puts_17 : decode cX11_puts 17 = .ok (.ishr, 1) := by decide +kernel
theorem dX11_puts_18 : decode cX11_puts 18 = .ok (.i2b, 1) := by decide +kernel
theorem dX11_puts_19 : decode cX11_puts 19 = .ok (.bastore, 1) := by decide +kernel
theorem dX11_puts_20 : decode cX11_puts 20 = .ok (.aload_n 0, 1) := by decide +kernel
theorem dX11_puts_21 : decode cX11_puts 21 = .ok (.dup, 1) := by decide +kernel
theorem dX11_puts_22 : decode cX11_puts 22 = .ok (.getfield 92, 3) := by decide +kernel
theorem dX11_puts_25 : decode cX11_puts 25 = .ok (.iconst 1, 1) := by decide +kernel
theorem dX11_puts_26 : decode cX11_puts 26 = .ok (.iadd, 1) := by decide +kernel
theorem dX11_puts_27 : decode cX11_puts 27 = .ok (.putfield 92, 3) := by decide +kernel
theorem dX11_puts_30 : decode cX11_puts 30 = .ok (.iinc 2 (-8), 3) := by decide +kernel
theorem dX11_puts_33 : decode cX11_puts 33 = .ok (.goto (-30), 3) := by decide +kernel
theorem dX11_puts_36 : decode cX11_puts 36 = .ok (.return_, 1) := by decide +kernel
theorem dX11_feed_0 : decode cX11_feed 0 = .ok (.aload_n 0, 1) := by decide +kernel
theorem dX11_feed_1 : decode cX11_feed 1 = .ok (.iconst 0, 1) := by decide +kernel
theorem dX11_feed_2 : decode cX11_feed 2 = .ok (.putfield 88, 3) := by decide +kernel
theorem dX11_feed_5 : decode cX11_feed 5 = .ok (.aload_n 0, 1) := by decide +kernel
theorem dX11_feed_6 : decode cX11_feed 6 = .ok (.getfield 92, 3) := by decide +kernel
theorem dX11_feed_9 : decode cX11_feed 9 = .ok (.bipush 20, 2) := by decide +kernel
theorem dX11_feed_11 : decode cX11_feed 11 = .ok (.iadd, 1) := by decide +kernel
theorem dX11_feed_12 : decode cX11_feed 12 = .ok (.sipush 700, 3) := by decide +kernel
theorem dX11_feed_15 : decode cX11_feed 15 = .ok (.if_icmp .le 5, 3) := by decide +kernel
theorem dX11_feed_18 : decode cX11_feed 18 = .ok (.iconst (-1), 1) := by decide +kernel
theorem dX11_feed_19 : decode cX11_feed 19 = .ok (.ireturn, 1) := by decide +kernel
theorem dX11_feed_20 : decode cX11_feed 20 = .ok (.aload_n 0, 1) := by decide +kernel
theorem dX11_feed_21 : decode cX11_feed 21 = .ok (.iload_n 1, 1) := by decide +kernel
theorem dX11_feed_22 : decode cX11_feed 22 = .ok (.invokevirtual 95, 3) := by decide +kernel
theorem dX11_feed_25 : decode cX11_feed 25 = .ok (.aload_n 0, 1) := by decide +kernel
theorem dX11_feed_26 : decode cX11_feed 26 = .ok (.iload_n 2, 1) := by decide +kernel
theorem dX11_feed_27 : decode cX11_feed 27 = .ok (.invokevirtual 95, 3) := by decide +kernel
theorem dX11_feed_30 : decode cX11_feed 30 = .ok (.aload_n 0, 1) := by decide +kernel
theorem dX11_feed_31 : decode cX11_feed 31 = .ok (.iload_n 3, 1) := by decide +kernel
theorem dX11_feed_32 : decode cX11_feed 32 = .ok (.invokevirtual 95, 3) := by decide +kernel
theorem dX11_feed_35 : decode cX11_feed 35 = .ok (.aload_n 0, 1) := by decide +kernel
theorem dX11_feed_36 : decode cX11_feed 36 = .ok (.iload 4, 2) := by decide +kernel
theorem dX11_feed_38 : decode cX11_feed 38 = .ok (.invokevirtual 95, 3) := by decide +kernel
theorem dX11_feed_41 : decode cX11_feed 41 = .ok (.aload_n 0, 1) := by decide +kernel
theorem dX11_feed_42 : decode cX11_feed 42 = .ok (.iload 5, 2) := by decide +kernel
theorem dX11_feed_44 : decode cX11_feed 44 = .ok (.invokevirtual 95, 3) := by decide +kernel
theorem dX11_feed_47 : decode cX11_feed 47 = .ok (.aload_n 0, 1) := by decide +kernel
theorem dX11_feed_48 : decode cX11_feed 48 = .ok (.getfield 92, 3) := by decide +kernel
theorem dX11_feed_51 : decode cX11_feed 51 = .ok (.ireturn, 1) := by decide +kernel
theorem dX11_see_0 : decode cX11_see 0 = .ok (.iload_n 1, 1) := by decide +kernel
theorem dX11_see_1 : decode cX11_see 1 = .ok (.aload_n 0, 1) := by decide +kernel
theorem dX11_see_2 : decode cX11_see 2 = .ok (.getfield 99, 3) := by decide +kernel
theorem dX11_see_5 : decode cX11_see 5 = .ok (.if_icmp .ge 16, 3) := by decide +kernel
theorem dX11_see_8 : decode cX11_see 8 = .ok (.aload_n 0, 1) := by decide +kernel
theorem dX11_see_9 : decode cX11_see 9 = .ok (.getfield 7, 3) := by decide +kernel
theorem dX11_see_12 : decode cX11_see 12 = .ok (.iload_n 1, 1) := by decide +kernel
theorem dX11_see_13 : decode cX11_see 13 = .ok (.baload, 1) := by decide +kernel
theorem dX11_see_14 : decode cX11_see 14 = .ok (.sipush 255, 3) := by decide +kernel
theorem dX11_see_17 : decode cX11_see 17 = .ok (.iand, 1) := by decide +kernel
theorem dX11_see_18 : decode cX11_see 18 = .ok (.goto 4, 3) := by decide +kernel
theorem dX11_see_21 : decode cX11_see 21 = .ok (.iconst (-1), 1) := by decide +kernel
theorem dX11_see_22 : decode cX11_see 22 = .ok (.ireturn, 1) := by decide +kernel
theorem dX11_steps_0 : decode cX11_steps 0 = .ok (.aload_n 0, 1) := by decide +kernel
theorem dX11_steps_1 : decode cX11_steps 1 = .ok (.aload_n 0, 1) := by decide +kernel
theorem dX11_steps_2 : decode cX11_steps 2 = .ok (.getfield 102, 3) := by decide +kernel
theorem dX11_steps_5 : decode cX11_steps 5 = .ok (.putfield 105, 3) := by decide +kernel
theorem dX11_steps_8 : decode cX11_steps 8 = .ok (.aload_n 0, 1) := by decide +kernel
theorem dX11_steps_9 : decode cX11_steps 9 = .ok (.aload_n 0, 1) := by decide +kernel
theorem dX11_steps_10 : decode cX11_steps 10 = .ok (.getfield 105, 3) := by decide +kernel
theorem dX11_steps_13 : decode cX11_steps 13 = .ok (.invokevirtual 108, 3) := by decide +kernel
theorem dX11_steps_16 : decode cX11_steps 16 = .ok (.bipush 32, 2) := by decide +kernel
theorem dX11_steps_18 : decode cX11_steps 18 = .ok (.if_icmp .eq 16, 3) := by decide +kernel
theorem dX11_steps_21 : decode cX11_steps 21 = .ok (.aload_n 0, 1) := by decide +kernel
theorem dX11_steps_22 : decode cX11_steps 22 = .ok (.aload_n 0, 1) := by decide +kernel
theorem dX11_steps_23 : decode cX11_steps 23 = .ok (.getfield 105, 3) := by decide +kernel
theorem dX11_steps_26 : decode cX11_steps 26 = .ok (.invokevirtual 108, 3) := by decide +kernel
theorem dX11_steps_29 : decode cX11_steps 29 = .ok (.bipush 10, 2) := by decide +kernel
theorem dX11_steps_31 : decode cX11_steps 31 = .ok (.if_icmp .ne 16, 3) := by decide +kernel
theorem dX11_steps_34 : decode cX11_steps 34 = .ok (.aload_n 0, 1) := by decide +kernel
theorem dX11_steps_35 : decode cX11_steps 35 = .ok (.dup, 1) := by decide +kernel
theorem dX11_steps_36 : decode cX11_steps 36 = .ok (.getfield 105, 3) := by decide +kernel
theorem dX11_steps_39 : decode cX11_steps 39 = .ok (.iconst 1, 1) := by decide +kernel
theorem dX11_steps_40 : decode cX11_steps 40 = .ok (.iadd, 1) := by decide +kernel
theorem dX11_steps_41 : decode cX11_steps 41 = .ok (.putfield 105, 3) := by decide +kernel
theorem dX11_steps_44 : decode cX11_steps 44 = .ok (.goto (-36), 3) := by decide +kernel
theorem dX11_steps_47 : decode cX11_steps 47 = .ok (.aload_n 0, 1) := by decide +kernel
theorem dX11_steps_48 : decode cX11_steps 48 = .ok (.aload_n 0, 1) := by decide +kernel
theorem dX11_steps_49 : decode cX11_steps 49 = .ok (.getfield 105, 3) := by decide +kernel
theorem dX11_steps_52 : decode cX11_steps 52 = .ok (.invokevirtual 108, 3) := by decide +kernel
theorem dX11_steps_55 : decode cX11_steps 55 = .ok (.istore_n 1, 1) := by decide +kernel
theorem dX11_steps_56 : decode cX11_steps 56 = .ok (.aload_n 0, 1) := by decide +kernel
theorem dX11_steps_57 : decode cX11_steps 57 = .ok (.aload_n 0, 1) := by decide +kernel
theorem dX11_steps_58 : decode cX11_steps 58 = .ok (.getfield 105, 3) := by decide +kernel
theorem dX11_steps_61 : decode cX11_steps 61 = .ok (.iconst 1, 1) := by decide +kernel
theorem dX11_steps_62 : decode cX11_steps 62 = .ok (.iadd, 1) := by decide +kernel
theorem dX11_steps_63 : decode cX11_steps 63 = .ok (.putfield 102, 3) := by decide +kernel
theorem dX11_steps_66 : decode cX11_steps 66 = .ok (.aload_n 0, 1) := by decide +kernel
theorem dX11_steps_67 : decode cX11_steps 67 = .ok (.iconst 4, 1) := by decide +kernel
theorem dX11_steps_68 : decode cX11_steps 68 = .ok (.putfield 112, 3) := by decide +kernel
theorem dX11_steps_71 : decode cX11_steps 71 = .ok (.aload_n 0, 1) := by decide +kernel
theorem dX11_steps_72 : decode cX11_steps 72 = .ok (.iconst 0, 1) := by decide +kernel
theorem dX11_steps_73 : decode cX11_steps 73 = .ok (.putfield 115, 3) := by decide +kernel
theorem dX11_steps_76 : decode cX11_steps 76 = .ok (.aload_n 0, 1) := by decide +kernel
theorem dX11_steps_77 : decode cX11_steps 77 = .ok (.lconst 0, 1) := by decide +kernel
theorem dX11_steps_78 : decode cX11_steps 78 = .ok (.putfield 118, 3) := by decide +kernel
theorem dX11_steps_81 : decode cX11_steps 81 = .ok (.iload_n 1, 1) := by decide +kernel
theorem dX11_steps_82 : decode cX11_steps 82 = .ok (.iconst (-1), 1) := by decide +kernel
theorem dX11_steps_83 : decode cX11_steps 83 = .ok (.if_icmp .ne 19, 3) := by decide +kernel
theorem dX11_steps_86 : decode cX11_steps 86 = .ok (.aload_n 0, 1) := by decide +kernel
theorem dX11_steps_87 : decode cX11_steps 87 = .ok (.aload_n 0, 1) := by decide +kernel
theorem dX11_steps_88 : decode cX11_steps 88 = .ok (.getfield 105, 3) := by decide +kernel
theorem dX11_steps_91 : decode cX11_steps 91 = .ok (.putfield 102, 3) := by decide +kernel
theorem dX11_steps_94 : decode cX11_steps 94 = .ok (.aload_n 0, 1) := by decide +kernel
theorem dX11_steps_95 : decode cX11_steps 95 = .ok (.iconst 0, 1) := by decide +kernel
theorem dX11_steps_96 : decode cX11_steps 96 = .ok (.putfield 112, 3) := by decide +kernel
theorem dX11_steps_99 : decode cX11_steps 99 = .ok (.goto 265, 3) := by decide +kernel
theorem dX11_steps_102 : decode cX11_steps 102 = .ok (.iload_n 1, 1) := by decide +kernel
theorem dX11_steps_103 : decode cX11_steps 103 = .ok (.bipush 59, 2) := by decide +kernel
theorem dX11_steps_105 : decode cX11_steps 105 = .ok (.if_icmp .ne 11, 3) := by decide +kernel
theorem dX11_steps_108 : decode cX11_steps 108 = .ok (.aload_n 0, 1) := by decide +kernel
theorem dX11_steps_109 : decode cX11_steps 109 = .ok (.iconst 3, 1) := by decide +kernel
theorem dX11_steps_110 : decode cX11_steps 110 = .ok (.putfield 112, 3) := by decide +kernel
theorem dX11_steps_113 : decode cX11_steps 113 = .ok (.goto 251, 3) := by decide +kernel
theorem dX11_steps_116 : decode cX11_steps 116 = .ok (.iload_n 1, 1) := by decide +kernel
theorem dX11_steps_117 : decode cX11_steps 117 = .ok (.i2l, 1) := by decide +kernel
theorem dX11_steps_118 : decode cX11_steps 118 = .ok (.ldc2_w 122, 3) := by decide +kernel
theorem dX11_steps_121 : decode cX11_steps 121 = .ok (.ldc2_w 124, 3) := by decide +kernel
theorem dX11_steps_124 : decode cX11_steps 124 = .ok (.invokestatic 126, 3) := by decide +kernel
theorem dX11_steps_127 : decode cX11_steps 127 = .ok (.ifCond .eq 116, 3) := by decide +kernel
theorem dX11_steps_130 : decode cX11_steps 130 = .ok (.aload_n 0, 1) := by decide +kernel
theorem dX11_steps_131 : decode cX11_steps 131 = .ok (.aload_n 0, 1) := by decide +kernel
theorem dX11_steps_132 : decode cX11_steps 132 = .ok (.getfield 105, 3) := by decide +kernel
theorem dX11_steps_135 : decode cX11_steps 135 = .ok (.putfield 102, 3) := by decide +kernel
theorem dX11_steps_138 : decode cX11_steps 138 = .ok (.aload_n 0, 1) := by decide +kernel
theorem dX11_steps_139 : decode cX11_steps 139 = .ok (.aload_n 0, 1) := by decide +kernel
theorem dX11_steps_140 : decode cX11_steps 140 = .ok (.getfield 102, 3) := by decide +kernel
theorem dX11_steps_143 : decode cX11_steps 143 = .ok (.invokevirtual 108, 3) := by decide +kernel
theorem dX11_steps_146 : decode cX11_steps 146 = .ok (.i2l, 1) := by decide +kernel
theorem dX11_steps_147 : decode cX11_steps 147 = .ok (.ldc2_w 122, 3) := by decide +kernel
theorem dX11_steps_150 : decode cX11_steps 150 = .ok (.ldc2_w 124, 3) := by decide +kernel
theorem dX11_steps_153 : decode cX11_steps 153 = .ok (.invokestatic 126, 3) := by decide +kernel
theorem dX11_steps_156 : decode cX11_steps 156 = .ok (.ifCond .eq 61, 3) := by decide +kernel
theorem dX11_steps_159 : decode cX11_steps 159 = .ok (.aload_n 0, 1) := by decide +kernel
theorem dX11_steps_160 : decode cX11_steps 160 = .ok (.aload_n 0, 1) := by decide +kernel
theorem dX11_steps_161 : decode cX11_steps 161 = .ok (.getfield 102, 3) := by decide +kernel
theorem dX11_steps_164 : decode cX11_steps 164 = .ok (.aload_n 0, 1) := by decide +kernel
theorem dX11_steps_165 : decode cX11_steps 165 = .ok (.getfield 105, 3) := by decide +kernel
theorem dX11_steps_168 : decode cX11_steps 168 = .ok (.isub, 1) := by decide +kernel
theorem dX11_steps_169 : decode cX11_steps 169 = .ok (.bipush 6, 2) := by decide +kernel
theorem dX11_steps_171 : decode cX11_steps 171 = .ok (.if_icmp .ge 26, 3) := by decide +kernel
theorem dX11_steps_174 : decode cX11_steps 174 = .ok (.aload_n 0, 1) := by decide +kernel
theorem dX11_steps_175 : decode cX11_steps 175 = .ok (.getfield 118, 3) := by decide +kernel
theorem dX11_steps_178 : decode cX11_steps 178 = .ok (.iconst 5, 1) := by decide +kernel
theorem dX11_steps_179 : decode cX11_steps 179 = .ok (.lshl, 1) := by decide +kernel
theorem dX11_steps_180 : decode cX11_steps 180 = .ok (.aload_n 0, 1) := by decide +kernel
theorem dX11_steps_181 : decode cX11_steps 181 = .ok (.aload_n 0, 1) := by decide +kernel
theorem dX11_steps_182 : decode cX11_steps 182 = .ok (.getfield 102, 3) := by decide +kernel
theorem dX11_steps_185 : decode cX11_steps 185 = .ok (.invokevirtual 108, 3) := by decide +kernel
theorem dX11_steps_188 : decode cX11_steps 188 = .ok (.i2l, 1) := by decide +kernel
theorem dX11_steps_189 : decode cX11_steps 189 = .ok (.ldc2_w 130, 3) := by decide +kernel
theorem dX11_steps_192 : decode cX11_steps 192 = .ok (.lsub, 1) := by decide +kernel
theorem dX11_steps_193 : decode cX11_steps 193 = .ok (.lor, 1) := by decide +kernel
theorem dX11_steps_194 : decode cX11_steps 194 = .ok (.goto 7, 3) := by decide +kernel
theorem dX11_steps_197 : decode cX11_steps 197 = .ok (.aload_n 0, 1) := by decide +kernel
theorem dX11_steps_198 : decode cX11_steps 198 = .ok (.getfield 118, 3) := by decide +kernel
theorem dX11_steps_201 : decode cX11_steps 201 = .ok (.putfield 118, 3) := by decide +kernel
theorem dX11_steps_204 : decode cX11_steps 204 = .ok (.aload_n 0, 1) := by decide +kernel
theorem dX11_steps_205 : decode cX11_steps 205 = .ok (.dup, 1) := by decide +kernel
theorem dX11_steps_206 : decode cX11_steps 206 = .ok (.getfield 102, 3) := by decide +kernel
theorem dX11_steps_209 : decode cX11_steps 209 = .ok (.iconst 1, 1) := by decide +kernel
theorem dX11_steps_210 : decode cX11_steps 210 = .ok (.iadd, 1) := by decide +kernel
theorem dX11_steps_211 : decode cX11_steps 211 = .ok (.putfield 102, 3) := by decide +kernel
theorem dX11_steps_214 : decode cX11_steps 214 = .ok (.goto (-76), 3) := by decide +kernel
theorem dX11_steps_217 : decode cX11_steps 217 = .ok (.aload_n 0, 1) := by decide +kernel
theorem dX11_steps_218 : decode cX11_steps 218 = .ok (.aload_n 0, 1) := by decide +kernel
theorem dX11_steps_219 : decode cX11_steps 219 = .ok (.getfield 102, 3) := by decide +kernel
theorem dX11_steps_222 : decode cX11_steps 222 = .ok (.aload_n 0, 1) := by decide +kernel
theorem dX11_steps_223 : decode cX11_steps 223 = .ok (.getfield 105, 3) := by decide +kernel
theorem dX11_steps_226 : decode cX11_steps 226 = .ok (.isub, 1) := by decide +kernel
theorem dX11_steps_227 : decode cX11_steps 227 = .ok (.bipush 7, 2) := by decide +kernel
theorem dX11_steps_229 : decode cX11_steps 229 = .ok (.if_icmp .ge 7, 3) := by decide +kernel
theorem dX11_steps_232 : decode cX11_steps 232 = .ok (.iconst 1, 1) := by decide +kernel
theorem dX11_steps_233 : decode cX11_steps 233 = .ok (.goto 4, 3) := by decide +kernel
theorem dX11_steps_236 : decode cX11_steps 236 = .ok (.iconst 4, 1) := by decide +kernel
theorem dX11_steps_237 : decode cX11_steps 237 = .ok (.putfield 112, 3) := by decide +kernel
theorem dX11_steps_240 : decode cX11_steps 240 = .ok (.goto 124, 3) := by decide +kernel
theorem dX11_steps_243 : decode cX11_steps 243 = .ok (.iload_n 1, 1) := by decide +kernel
theorem dX11_steps_244 : decode cX11_steps 244 = .ok (.i2l, 1) := by decide +kernel
theorem dX11_steps_245 : decode cX11_steps 245 = .ok (.ldc2_w 132, 3) := by decide +kernel
theorem dX11_steps_248 : decode cX11_steps 248 = .ok (.ldc2_w 134, 3) := by decide +kernel
theorem dX11_steps_251 : decode cX11_steps 251 = .ok (.invokestatic 126, 3) := by decide +kernel
theorem dX11_steps_254 : decode cX11_steps 254 = .ok (.ifCond .eq 110, 3) := by decide +kernel
theorem dX11_steps_257 : decode cX11_steps 257 = .ok (.aload_n 0, 1) := by decide +kernel
theorem dX11_steps_258 : decode cX11_steps 258 = .ok (.aload_n 0, 1) := by decide +kernel
theorem dX11_steps_259 : decode cX11_steps 259 = .ok (.getfield 105, 3) := by decide +kernel
theorem dX11_steps_262 : decode cX11_steps 262 = .ok (.putfield 102, 3) := by decide +kernel
theorem dX11_steps_265 : decode cX11_steps 265 = .ok (.aload_n 0, 1) := by decide +kernel
theorem dX11_steps_266 : decode cX11_steps 266 = .ok (.aload_n 0, 1) := by decide +kernel
theorem dX11_steps_267 : decode cX11_steps 267 = .ok (.getfield 102, 3) := by decide +kernel
theorem dX11_steps_270 : decode cX11_steps 270 = .ok (.invokevirtual 108, 3) := by decide +kernel
theorem dX11_steps_273 : decode cX11_steps 273 = .ok (.i2l, 1) := by decide +kernel
theorem dX11_steps_274 : decode cX11_steps 274 = .ok (.ldc2_w 132, 3) := by decide +kernel
theorem dX11_steps_277 : decode cX11_steps 277 = .ok (.ldc2_w 134, 3) := by decide +kernel
theorem dX11_steps_280 : decode cX11_steps 280 = .ok (.invokestatic 126, 3) := by decide +kernel
theorem dX11_steps_283 : decode cX11_steps 283 = .ok (.ifCond .eq 59, 3) := by decide +kernel
theorem dX11_steps_286 : decode cX11_steps 286 = .ok (.aload_n 0, 1) := by decide +kernel
theorem dX11_steps_287 : decode cX11_steps 287 = .ok (.aload_n 0, 1) := by decide +kernel
theorem dX11_steps_288 : decode cX11_steps 288 = .ok (.getfield 102, 3) := by decide +kernel
theorem dX11_steps_291 : decode cX11_steps 291 = .ok (.aload_n 0, 1) := by decide +kernel
theorem dX11_steps_292 : decode cX11_steps 292 = .ok (.getfield 105, 3) := by decide +kernel
theorem dX11_steps_295 : decode cX11_steps 295 = .ok (.isub, 1) := by decide +kernel
theorem dX11_steps_296 : decode cX11_steps 296 = .ok (.iconst 2, 1) := by decide +kernel
theorem dX11_steps_297 : decode cX11_steps 297 = .ok (.if_icmp .ge 25, 3) := by decide +kernel
theorem dX11_steps_300 : decode cX11_steps 300 = .ok (.bipush 10, 2) := by decide +kernel
theorem dX11_steps_302 : decode cX11_steps 302 = .ok (.aload_n 0, 1) := by decide +kernel
theorem dX11_steps_303 : decode cX11_steps 303 = .ok (.getfield 115, 3) := by decide +kernel
theorem dX11_steps_306 : decode cX11_steps 306 = .ok (.imul, 1) := by decide +kernel
theorem dX11_steps_307 : decode cX11_steps 307 = .ok (.aload_n 0, 1) := by decide +kernel
theorem dX11_steps_308 : decode cX11_steps 308 = .ok (.aload_n 0, 1) := by decide +kernel
theorem dX11_steps_309 : decode cX11_steps 309 = .ok (.getfield 102, 3) := by decide +kernel
theorem dX11_steps_312 : decode cX11_steps 312 = .ok (.invokevirtual 108, 3) := by decide +kernel
theorem dX11_steps_315 : decode cX11_steps 315 = .ok (.iadd, 1) := by decide +kernel
theorem dX11_steps_316 : decode cX11_steps 316 = .ok (.bipush 48, 2) := by decide +kernel
theorem dX11_steps_318 : decode cX11_steps 318 = .ok (.isub, 1) := by decide +kernel
theorem dX11_steps_319 : decode cX11_steps 319 = .ok (.goto 7, 3) := by decide +kernel
theorem dX11_steps_322 : decode cX11_steps 322 = .ok (.aload_n 0, 1) := by decide +kernel
theorem dX11_steps_323 : decode cX11_steps 323 = .ok (.getfield 115, 3) := by decide +kernel
theorem dX11_steps_326 : decode cX11_steps 326 = .ok (.putfield 115, 3) := by decide +kernel
theorem dX11_steps_329 : decode cX11_steps 329 = .ok (.aload_n 0, 1) := by decide +kernel
theorem dX11_steps_330 : decode cX11_steps 330 = .ok (.dup, 1) := by decide +kernel
theorem dX11_steps_331 : decode cX11_steps 331 = .ok (.getfield 102, 3) := by decide +kernel
theorem dX11_steps_334 : decode cX11_steps 334 = .ok (.iconst 1, 1) := by decide +kernel
theorem dX11_steps_335 : decode cX11_steps 335 = .ok (.iadd, 1) := by decide +kernel
theorem dX11_steps_336 : decode cX11_steps 336 = .ok (.putfield 102, 3) := by decide +kernel
theorem dX11_steps_339 : decode cX11_steps 339 = .ok (.goto (-74), 3) := by decide +kernel
theorem dX11_steps_342 : decode cX11_steps 342 = .ok (.aload_n 0, 1) := by decide +kernel
theorem dX11_steps_343 : decode cX11_steps 343 = .ok (.aload_n 0, 1) := by decide +kernel
theorem dX11_steps_344 : decode cX11_steps 344 = .ok (.getfield 102, 3) := by decide +kernel
theorem dX11_steps_347 : decode cX11_steps 347 = .ok (.aload_n 0, 1) := by decide +kernel
theorem dX11_steps_348 : decode cX11_steps 348 = .ok (.getfield 105, 3) := by decide +kernel
theorem dX11_steps_351 : decode cX11_steps 351 = .ok (.isub, 1) := by decide +kernel
theorem dX11_steps_352 : decode cX11_steps 352 = .ok (.iconst 3, 1) := by decide +kernel
theorem dX11_steps_353 : decode cX11_steps 353 = .ok (.if_icmp .ge 7, 3) := by decide +kernel
theorem dX11_steps_356 : decode cX11_steps 356 = .ok (.iconst 2, 1) := by decide +kernel
theorem dX11_steps_357 : decode cX11_steps 357 = .ok (.goto 4, 3) := by decide +kernel
theorem dX11_steps_360 : decode cX11_steps 360 = .ok (.iconst 4, 1) := by decide +kernel
theorem dX11_steps_361 : decode cX11_steps 361 = .ok (.putfield 112, 3) := by decide +kernel
theorem dX11_steps_364 : decode cX11_steps 364 = .ok (.return_, 1) := by decide +kernel
theorem dX11_must_0 : decode cX11_must 0 = .ok (.aload_n 0, 1) := by decide +kernel
theorem dX11_must_1 : decode cX11_must 1 = .ok (.getfield 136, 3) := by decide +kernel
theorem dX11_must_4 : decode cX11_must 4 = .ok (.ifCond .ne 20, 3) := by decide +kernel
theorem dX11_must_7 : decode cX11_must 7 = .ok (.iload_n 1, 1) := by decide +kernel
theorem dX11_must_8 : decode cX11_must 8 = .ok (.ifCond .ne 16, 3) := by decide +kernel
theorem dX11_must_11 : decode cX11_must 11 = .ok (.aload_n 0, 1) := by decide +kernel
theorem dX11_must_12 : decode cX11_must 12 = .ok (.iload_n 2, 1) := by decide +kernel
theorem dX11_must_13 : decode cX11_must 13 = .ok (.putfield 136, 3) := by decide +kernel
theorem dX11_must_16 : decode cX11_must 16 = .ok (.aload_n 0, 1) := by decide +kernel
theorem dX11_must_17 : decode cX11_must 17 = .ok (.aload_n 0, 1) := by decide +kernel
theorem dX11_must_18 : decode cX11_must 18 = .ok (.getfield 105, 3) := by decide +kernel
theorem dX11_must_21 : decode cX11_must 21 = .ok (.putfield 139, 3) := by decide +kernel
theorem dX11_must_24 : decode cX11_must 24 = .ok (.aload_n 0, 1) := by decide +kernel
theorem dX11_must_25 : decode cX11_must 25 = .ok (.getfield 136, 3) := by decide +kernel
theorem dX11_must_28 : decode cX11_must 28 = .ok (.ifCond .ne 7, 3) := by decide +kernel
theorem dX11_must_31 : decode cX11_must 31 = .ok (.iconst 1, 1) := by decide +kernel
theorem dX11_must_32 : decode cX11_must 32 = .ok (.goto 4, 3) := by decide +kernel
theorem dX11_must_35 : decode cX11_must 35 = .ok (.iconst 0, 1) := by decide +kernel
theorem dX11_must_36 : decode cX11_must 36 = .ok (.ireturn, 1) := by decide +kernel
theorem dX11_spelled_0 : decode cX11_spelled 0 = .ok (.lconst 0, 1) := by decide +kernel
theorem dX11_spelled_1 : decode cX11_spelled 1 = .ok (.lstore_n 1, 1) := by decide +kernel
theorem dX11_spelled_2 : decode cX11_spelled 2 = .ok (.iconst 0, 1) := by decide +kernel
theorem dX11_spelled_3 : decode cX11_spelled 3 = .ok (.istore_n 3, 1) := by decide +kernel
theorem dX11_spelled_4 : decode cX11_spelled 4 = .ok (.iload_n 3, 1) := by decide +kernel
theorem dX11_spelled_5 : decode cX11_spelled 5 = .ok (.aload_n 0, 1) := by decide +kernel
theorem dX11_spelled_6 : decode cX11_spelled 6 = .ok (.invokevirtual 142, 3) := by decide +kernel
theorem dX11_spelled_9 : decode cX11_spelled 9 = .ok (.if_icmp .ge 24, 3) := by decide +kernel
theorem dX11_spelled_12 : decode cX11_spelled 12 = .ok (.lload_n 1, 1) := by decide +kernel
theorem dX11_spelled_13 : decode cX11_spelled 13 = .ok (.iconst 5, 1) := by decide +kernel
theorem dX11_spelled_14 : decode cX11_spelled 14 = .ok (.lshl, 1) := by decide +kernel
theorem dX11_spelled_15 : decode cX11_spelled 15 = .ok (.aload_n 0, 1) := by decide +kernel
theorem dX11_spelled_16 : decode cX11_spelled 16 = .ok (.iload_n 3, 1) := by decide +kernel
theorem dX11_spelled_17 : decode cX11_spelled 17 = .ok (.invokevirtual 148, 3) := by decide +kernel
theorem dX11_spelled_20 : decode cX11_spelled 20 = .ok (.i2l, 1) := by decide +kernel
theorem dX11_spelled_21 : decode cX11_spelled 21 = .ok (.ldc2_w 130, 3) := by decide +kernel
theorem dX11_spelled_24 : decode cX11_spelled 24 = .ok (.lsub, 1) := by decide +kernel
theorem dX11_spelled_25 : decode cX11_spelled 25 = .ok (.lor, 1) := by decide +kernel
theorem dX11_spelled_26 : decode cX11_spelled 26 = .ok (.lstore_n 1, 1) := by decide +kernel
theorem dX11_spelled_27 : decode cX11_spelled 27 = .ok (.iinc 3 1, 3) := by decide +kernel
theorem dX11_spelled_30 : decode cX11_spelled 30 = .ok (.goto (-26), 3) := by decide +kernel
theorem dX11_spelled_33 : decode cX11_spelled 33 = .ok (.lload_n 1, 1) := by decide +kernel
theorem dX11_spelled_34 : decode cX11_spelled 34 = .ok (.lreturn, 1) := by decide +kernel
theorem dX11_is_0 : decode cX11_is 0 = .ok (.aload_n 0, 1) := by decide +kernel
theorem dX11_is_1 : decode cX11_is 1 = .ok (.getfield 112, 3) := by decide +kernel
theorem dX11_is_4 : decode cX11_is 4 = .ok (.iconst 1, 1) := by decide +kernel
theorem dX11_is_5 : decode cX11_is 5 = .ok (.if_icmp .ne 19, 3) := by decide +kernel
theorem dX11_is_8 : decode cX11_is 8 = .ok (.aload_n 0, 1) := by decide +kernel
theorem dX11_is_9 : decode cX11_is 9 = .ok (.getfield 118, 3) := by decide +kernel
theorem dX11_is_12 : decode cX11_is 12 = .ok (.aload_n 1, 1) := by decide +kernel
theorem dX11_is_13 : decode cX11_is 13 = .ok (.invokestatic 152, 3) := by decide +kernel
theorem dX11_is_16 : decode cX11_is 16 = .ok (.lcmp, 1) := by decide +kernel
theorem dX11_is_17 : decode cX11_is 17 = .ok (.ifCond .ne 7, 3) := by decide +kernel
theorem dX11_is_20 : decode cX11_is 20 = .ok (.iconst 1, 1) := by decide +kernel
theorem dX11_is_21 : decode cX11_is 21 = .ok (.goto 4, 3) := by decide +kernel
theorem dX11_is_24 : decode cX11_is 24 = .ok (.iconst 0, 1) := by decide +kernel
theorem dX11_is_25 : decode cX11_is 25 = .ok (.ireturn, 1) := by decide +kernel
theorem dX11_isName_0 : decode cX11_isName 0 = .ok (.aload_n 0, 1) := by decide +kernel
theorem dX11_isName_1 : decode cX11_isName 1 = .ok (.getfield 112, 3) := by decide +kernel
theorem dX11_isName_4 : decode cX11_isName 4 = .ok (.iconst 1, 1) := by decide +kernel
theorem dX11_isName_5 : decode cX11_isName 5 = .ok (.if_icmp .ne 61, 3) := by decide +kernel
theorem dX11_isName_8 : decode cX11_isName 8 = .ok (.aload_n 0, 1) := by decide +kernel
theorem dX11_isName_9 : decode cX11_isName 9 = .ok (.ldc 156, 2) := by decide +kernel
theorem dX11_isName_11 : decode cX11_isName 11 = .ok (.invokevirtual 158, 3) := by decide +kernel
theorem dX11_isName_14 : decode cX11_isName 14 = .ok (.ifCond .ne 52, 3) := by decide +kernel
theorem dX11_isName_17 : decode cX11_isName 17 = .ok (.aload_n 0, 1) := by decide +kernel
theorem dX11_isName_18 : decode cX11_isName 18 = .ok (.ldc 162, 2) := by decide +kernel
theorem dX11_isName_20 : decode cX11_isName 20 = .ok (.invokevirtual 158, 3) := by decide +kernel
theorem dX11_isName_23 : decode cX11_isName 23 = .ok (.ifCond .ne 43, 3) := by decide +kernel
theorem dX11_isName_26 : decode cX11_isName 26 = .ok (.aload_n 0, 1) := by decide +kernel
theorem dX11_isName_27 : decode cX11_isName 27 = .ok (.ldc 164, 2) := by decide +kernel
theorem dX11_isName_29 : decode cX11_isName 29 = .ok (.invokevirtual 158, 3) := by decide +kernel
theorem dX11_isName_32 : decode cX11_isName 32 = .ok (.ifCond .ne 34, 3) := by decide +kernel
theorem dX11_isName_35 : decode cX11_isName 35 = .ok (.aload_n 0, 1) := by decide +kernel
theorem dX11_isName_36 : decode cX11_isName 36 = .ok (.ldc 166, 2) := by decide +kernel
theorem dX11_isName_38 : decode cX11_isName 38 = .ok (.invokevirtual 158, 3) := by decide +kernel
theorem dX11_isName_41 : decode cX11_isName 41 = .ok (.ifCond .ne 25, 3) := by decide +kernel
theorem dX11_isName_44 : decode cX11_isName 44 = .ok (.aload_n 0, 1) := by decide +kernel
theorem dX11_isName_45 : decode cX11_isName 45 = .ok (.ldc 167, 2) := by decide +kernel
theorem dX11_isName_47 : decode cX11_isName 47 = .ok (.invokevirtual 158, 3) := by decide +kernel
theorem dX11_isName_50 : decode cX11_isName 50 = .ok (.ifCond .ne 16, 3) := by decide +kernel
theorem dX11_isName_53 : decode cX11_isName 53 = .ok (.aload_n 0, 1) := by decide +kernel
theorem dX11_isName_54 : decode cX11_isName 54 = .ok (.ldc 169, 2) := by decide +kernel
theorem dX11_isName_56 : decode cX11_isName 56 = .ok (.invokevirtual 158, 3) := by decide +kernel
theorem dX11_isName_59 : decode cX11_isName 59 = .ok (.ifCond .ne 7, 3) := by decide +kernel
theorem dX11_isName_62 : decode cX11_isName 62 = .ok (.iconst 1, 1) := by decide +kernel
theorem dX11_isName_63 : decode cX11_isName 63 = .ok (.goto 4, 3) := by decide +kernel
theorem dX11_isName_66 : decode cX11_isName 66 = .ok (.iconst 0, 1) := by decide +kernel
theorem dX11_isName_67 : decode cX11_isName 67 = .ok (.ireturn, 1) := by decide +kernel
theorem dX11_takesNumber_0 : decode cX11_takesNumber 0 = .ok (.aload_n 0, 1) := by decide +kernel
theorem dX11_takesNumber_1 : decode cX11_takesNumber 1 = .ok (.aload_n 0, 1) := by decide +kernel
theorem dX11_takesNumber_2 : decode cX11_takesNumber 2 = .ok (.getfield 112, 3) := by decide +kernel
theorem dX11_takesNumber_5 : decode cX11_takesNumber 5 = .ok (.iconst 2, 1) := by decide +kernel
theorem dX11_takesNumber_6 : decode cX11_takesNumber 6 = .ok (.if_icmp .ne 7, 3) := by decide +kernel
theorem dX11_takesNumber_9 : decode cX11_takesNumber 9 = .ok (.iconst 1, 1) := by decide +kernel
theorem dX11_takesNumber_10 : decode cX11_takesNumber 10 = .ok (.goto 4, 3) := by decide +kernel
theorem dX11_takesNumber_13 : decode cX11_takesNumber 13 = .ok (.iconst 0, 1) := by decide +kernel
theorem dX11_takesNumber_14 : decode cX11_takesNumber 14 = .ok (.iconst 1, 1) := by decide +kernel
theorem dX11_takesNumber_15 : decode cX11_takesNumber 15 = .ok (.invokevirtual 171, 3) := by decide +kernel
theorem dX11_takesNumber_18 : decode cX11_takesNumber 18 = .ok (.ifCond .eq 23, 3) := by decide +kernel
theorem dX11_takesNumber_21 : decode cX11_takesNumber 21 = .ok (.aload_n 0, 1) := by decide +kernel
theorem dX11_takesNumber_22 : decode cX11_takesNumber 22 = .ok (.aload_n 0, 1) := by decide +kernel
theorem dX11_takesNumber_23 : decode cX11_takesNumber 23 = .ok (.getfield 115, 3) := by decide +kernel
theorem dX11_takesNumber_26 : decode cX11_takesNumber 26 = .ok (.i2l, 1) := by decide +kernel
theorem dX11_takesNumber_27 : decode cX11_takesNumber 27 = .ok (.iload_n 1, 1) := by decide +kernel
theorem dX11_takesNumber_28 : decode cX11_takesNumber 28 = .ok (.i2l, 1) := by decide +kernel
theorem dX11_takesNumber_29 : decode cX11_takesNumber 29 = .ok (.iload_n 2, 1) := by decide +kernel
theorem dX11_takesNumber_30 : decode cX11_takesNumber 30 = .ok (.i2l, 1) := by decide +kernel
theorem dX11_takesNumber_31 : decode cX11_takesNumber 31 = .ok (.invokestatic 126, 3) := by decide +kernel
theorem dX11_takesNumber_34 : decode cX11_takesNumber 34 = .ok (.iconst 4, 1) := by decide +kernel
theorem dX11_takesNumber_35 : decode cX11_takesNumber 35 = .ok (.invokevirtual 171, 3) := by decide +kernel
theorem dX11_takesNumber_38 : decode cX11_takesNumber 38 = .ok (.ifCond .ne 5, 3) := by decide +kernel
theorem dX11_takesNumber_41 : decode cX11_takesNumber 41 = .ok (.iconst 0, 1) := by decide +kernel
theorem dX11_takesNumber_42 : decode cX11_takesNumber 42 = .ok (.ireturn, 1) := by decide +kernel
theorem dX11_takesNumber_43 : decode cX11_takesNumber 43 = .ok (.aload_n 0, 1) := by decide +kernel
theorem dX11_takesNumber_44 : decode cX11_takesNumber 44 = .ok (.aload_n 0, 1) := by decide +kernel
theorem dX11_takesNumber_45 : decode cX11_takesNumber 45 = .ok (.getfield 115, 3) := by decide +kernel
theorem dX11_takesNumber_48 : decode cX11_takesNumber 48 = .ok (.putfield 175, 3) := by decide +kernel
theorem dX11_takesNumber_51 : decode cX11_takesNumber 51 = .ok (.aload_n 0, 1) := by decide +kernel
theorem dX11_takesNumber_52 : decode cX11_takesNumber 52 = .ok (.invokevirtual 178, 3) := by decide +kernel
theorem dX11_takesNumber_55 : decode cX11_takesNumber 55 = .ok (.iconst 1, 1) := by decide +kernel
theorem dX11_takesNumber_56 : decode cX11_takesNumber 56 = .ok (.ireturn, 1) := by decide +kernel
theorem dX11_tableNamed_0 : decode cX11_tableNamed 0 = .ok (.iconst 0, 1) := by decide +kernel
theorem dX11_tableNamed_1 : decode cX11_tableNamed 1 = .ok (.istore_n 1, 1) := by decide +kernel
theorem dX11_tableNamed_2 : decode cX11_tableNamed 2 = .ok (.iload_n 1, 1) := by decide +kernel
theorem dX11_tableNamed_3 : decode cX11_tableNamed 3 = .ok (.aload_n 0, 1) := by decide +kernel
theorem dX11_tableNamed_4 : decode cX11_tableNamed 4 = .ok (.getfield 17, 3) := by decide +kernel
theorem dX11_tableNamed_7 : decode cX11_tableNamed 7 = .ok (.aload_n 0, 1) := by decide +kernel
theorem dX11_tableNamed_8 : decode cX11_tableNamed 8 = .ok (.getfield 181, 3) := by decide +kernel
theorem dX11_tableNamed_11 : decode cX11_tableNamed 11 = .ok (.iaload, 1) := by decide +kernel
theorem dX11_tableNamed_12 : decode cX11_tableNamed 12 = .ok (.if_icmp .ge 33, 3) := by decide +kernel
theorem dX11_tableNamed_15 : decode cX11_tableNamed 15 = .ok (.aload_n 0, 1) := by decide +kernel
theorem dX11_tableNamed_16 : decode cX11_tableNamed 16 = .ok (.getfield 26, 3) := by decide +kernel
theorem dX11_tableNamed_19 : decode cX11_tableNamed 19 = .ok (.bipush 8, 2) := by decide +kernel
theorem dX11_tableNamed_21 : decode cX11_tableNamed 21 = .ok (.aload_n 0, 1) := by decide +kernel
theorem dX11_tableNamed_22 : decode cX11_tableNamed 22 = .ok (.getfield 181, 3) := by decide +kernel
theorem dX11_tableNamed_25 : decode cX11_tableNamed 25 = .ok (.imul, 1) := by decide +kernel
theorem dX11_tableNamed_26 : decode cX11_tableNamed 26 = .ok (.iload_n 1, 1) := by decide +kernel
theorem dX11_tableNamed_27 : decode cX11_tableNamed 27 = .ok (.iadd, 1) := by decide +kernel
theorem dX11_tableNamed_28 : decode cX11_tableNamed 28 = .ok (.laload, 1) := by decide +kernel
theorem dX11_tableNamed_29 : decode cX11_tableNamed 29 = .ok (.aload_n 0, 1) := by decide +kernel
theorem dX11_tableNamed_30 : decode cX11_tableNamed 30 = .ok (.getfield 118, 3) := by decide +kernel
theorem dX11_tableNamed_33 : decode cX11_tableNamed 33 = .ok (.lcmp, 1) := by decide +kernel
theorem dX11_tableNamed_34 : decode cX11_tableNamed 34 = .ok (.ifCond .ne 5, 3) := by decide +kernel
theorem dX11_tableNamed_37 : decode cX11_tableNamed 37 = .ok (.iload_n 1, 1) := by decide +kernel
theorem dX11_tableNamed_38 : decode cX11_tableNamed 38 = .ok (.ireturn, 1) := by decide +kernel
theorem dX11_tableNamed_39 : decode cX11_tableNamed 39 = .ok (.iinc 1 1, 3) := by decide +kernel
theorem dX11_tableNamed_42 : decode cX11_tableNamed 42 = .ok (.goto (-40), 3) := by decide +kernel
theorem dX11_tableNamed_45 : decode cX11_tableNamed 45 = .ok (.iconst (-1), 1) := by decide +kernel
theorem dX11_tableNamed_46 : decode cX11_tableNamed 46 = .ok (.ireturn, 1) := by decide +kernel
theorem dX11_baseNamed_0 : decode cX11_baseNamed 0 = .ok (.iconst 0, 1) := by decide +kernel
theorem dX11_baseNamed_1 : decode cX11_baseNamed 1 = .ok (.istore_n 1, 1) := by decide +kernel
theorem dX11_baseNamed_2 : decode cX11_baseNamed 2 = .ok (.iload_n 1, 1) := by decide +kernel
theorem dX11_baseNamed_3 : decode cX11_baseNamed 3 = .ok (.aload_n 0, 1) := by decide +kernel
theorem dX11_baseNamed_4 : decode cX11_baseNamed 4 = .ok (.getfield 20, 3) := by decide +kernel
theorem dX11_baseNamed_7 : decode cX11_baseNamed 7 = .ok (.aload_n 0, 1) := by decide +kernel
theorem dX11_baseNamed_8 : decode cX11_baseNamed 8 = .ok (.getfield 181, 3) := by decide +kernel
theorem dX11_baseNamed_11 : decode cX11_baseNamed 11 = .ok (.iaload, 1) := by decide +kernel
theorem dX11_baseNamed_12 : decode cX11_baseNamed 12 = .ok (.if_icmp .ge 32, 3) := by decide +kernel
theorem dX11_baseNamed_15 : decode cX11_baseNamed 15 = .ok (.aload_n 0, 1) := by decide +kernel
theorem dX11_baseNamed_16 : decode cX11_baseNamed 16 = .ok (.getfield 30, 3) := by decide +kernel
theorem dX11_baseNamed_19 : decode cX11_baseNamed 19 = .ok (.iconst 5, 1) := by decide +kernel
theorem dX11_baseNamed_20 : decode cX11_baseNamed 20 = .ok (.aload_n 0, 1) := by decide +kernel
theorem dX11_baseNamed_21 : decode cX11_baseNamed 21 = .ok (.getfield 181, 3) := by decide +kernel
theorem dX11_baseNamed_24 : decode cX11_baseNamed 24 = .ok (.imul, 1) := by decide +kernel
theorem dX11_baseNamed_25 : decode cX11_baseNamed 25 = .ok (.iload_n 1, 1) := by decide +kernel
theorem dX11_baseNamed_26 : decode cX11_baseNamed 26 = .ok (.iadd, 1) := by decide +kernel
theorem dX11_baseNamed_27 : decode cX11_baseNamed 27 = .ok (.laload, 1) := by decide +kernel
theorem dX11_baseNamed_28 : decode cX11_baseNamed 28 = .ok (.aload_n 0, 1) := by decide +kernel
theorem dX11_baseNamed_29 : decode cX11_baseNamed 29 = .ok (.getfield 118, 3) := by decide +kernel
theorem dX11_baseNamed_32 : decode cX11_baseNamed 32 = .ok (.lcmp, 1) := by decide +kernel
theorem dX11_baseNamed_33 : decode cX11_baseNamed 33 = .ok (.ifCond .ne 5, 3) := by decide +kernel
theorem dX11_baseNamed_36 : decode cX11_baseNamed 36 = .ok (.iload_n 1, 1) := by decide +kernel
theorem dX11_baseNamed_37 : decode cX11_baseNamed 37 = .ok (.ireturn, 1) := by decide +kernel
theorem dX11_baseNamed_38 : decode cX11_baseNamed 38 = .ok (.iinc 1 1, 3) := by decide +kernel
theorem dX11_baseNamed_41 : decode cX11_baseNamed 41 = .ok (.goto (-39), 3) := by decide +kernel
theorem dX11_baseNamed_44 : decode cX11_baseNamed 44 = .ok (.iconst (-1), 1) := by decide +kernel
theorem dX11_baseNamed_45 : decode cX11_baseNamed 45 = .ok (.ireturn, 1) := by decide +kernel
theorem dX11_nodeNamed_0 : decode cX11_nodeNamed 0 = .ok (.iconst 0, 1) := by decide +kernel
theorem dX11_nodeNamed_1 : decode cX11_nodeNamed 1 = .ok (.istore_n 1, 1) := by decide +kernel
theorem dX11_nodeNamed_2 : decode cX11_nodeNamed 2 = .ok (.iload_n 1, 1) := by decide +kernel
theorem dX11_nodeNamed_3 : decode cX11_nodeNamed 3 = .ok (.aload_n 0, 1) := by decide +kernel
theorem dX11_nodeNamed_4 : decode cX11_nodeNamed 4 = .ok (.getfield 23, 3) := by decide +kernel
theorem dX11_nodeNamed_7 : decode cX11_nodeNamed 7 = .ok (.aload_n 0, 1) := by decide +kernel
theorem dX11_nodeNamed_8 : decode cX11_nodeNamed 8 = .ok (.getfield 181, 3) := by decide +kernel
theorem dX11_nodeNamed_11 : decode cX11_nodeNamed 11 = .ok (.iaload, 1) := by decide +kernel
theorem dX11_nodeNamed_12 : decode cX11_nodeNamed 12 = .ok (.if_icmp .ge 33, 3) := by decide +kernel
theorem dX11_nodeNamed_15 : decode cX11_nodeNamed 15 = .ok (.aload_n 0, 1) := by decide +kernel
theorem dX11_nodeNamed_16 : decode cX11_nodeNamed 16 = .ok (.getfield 33, 3) := by decide +kernel
theorem dX11_nodeNamed_19 : decode cX11_nodeNamed 19 = .ok (.bipush 6, 2) := by decide +kernel
theorem dX11_nodeNamed_21 : decode cX11_nodeNamed 21 = .ok (.aload_n 0, 1) := by decide +kernel
theorem dX11_nodeNamed_22 : decode cX11_nodeNamed 22 = .ok (.getfield 181, 3) := by decide +kernel
theorem dX11_nodeNamed_25 : decode cX11_nodeNamed 25 = .ok (.imul, 1) := by decide +kernel
theorem dX11_nodeNamed_26 : decode cX11_nodeNamed 26 = .ok (.iload_n 1, 1) := by decide +kernel
theorem dX11_nodeNamed_27 : decode cX11_nodeNamed 27 = .ok (.iadd, 1) := by decide +kernel
theorem dX11_nodeNamed_28 : decode cX11_nodeNamed 28 = .ok (.laload, 1) := by decide +kernel
theorem dX11_nodeNamed_29 : decode cX11_nodeNamed 29 = .ok (.aload_n 0, 1) := by decide +kernel
theorem dX11_nodeNamed_30 : decode cX11_nodeNamed 30 = .ok (.getfield 118, 3) := by decide +kernel
theorem dX11_nodeNamed_33 : decode cX11_nodeNamed 33 = .ok (.lcmp, 1) := by decide +kernel
theorem dX11_nodeNamed_34 : decode cX11_nodeNamed 34 = .ok (.ifCond .ne 5, 3) := by decide +kernel
theorem dX11_nodeNamed_37 : decode cX11_nodeNamed 37 = .ok (.iload_n 1, 1) := by decide +kernel
theorem dX11_nodeNamed_38 : decode cX11_nodeNamed 38 = .ok (.ireturn, 1) := by decide +kernel
theorem dX11_nodeNamed_39 : decode cX11_nodeNamed 39 = .ok (.iinc 1 1, 3) := by decide +kernel
theorem dX11_nodeNamed_42 : decode cX11_nodeNamed 42 = .ok (.goto (-40), 3) := by decide +kernel
theorem dX11_nodeNamed_45 : decode cX11_nodeNamed 45 = .ok (.iconst (-1), 1) := by decide +kernel
theorem dX11_nodeNamed_46 : decode cX11_nodeNamed 46 = .ok (.ireturn, 1) := by decide +kernel
theorem dX11_newName_0 : decode cX11_newName 0 = .ok (.aload_n 0, 1) := by decide +kernel
theorem dX11_newName_1 : decode cX11_newName 1 = .ok (.aload_n 0, 1) := by decide +kernel
theorem dX11_newName_2 : decode cX11_newName 2 = .ok (.invokevirtual 184, 3) := by decide +kernel
theorem dX11_newName_5 : decode cX11_newName 5 = .ok (.iconst 1, 1) := by decide +kernel
theorem dX11_newName_6 : decode cX11_newName 6 = .ok (.invokevirtual 171, 3) := by decide +kernel
theorem dX11_newName_9 : decode cX11_newName 9 = .ok (.ifCond .eq 37, 3) := by decide +kernel
theorem dX11_newName_12 : decode cX11_newName 12 = .ok (.aload_n 0, 1) := by decide +kernel
theorem dX11_newName_13 : decode cX11_newName 13 = .ok (.aload_n 0, 1) := by decide +kernel
theorem dX11_newName_14 : decode cX11_newName 14 = .ok (.invokevirtual 188, 3) := by decide +kernel
theorem dX11_newName_17 : decode cX11_newName 17 = .ok (.ifCond .ge 21, 3) := by decide +kernel
theorem dX11_newName_20 : decode cX11_newName 20 = .ok (.aload_n 0, 1) := by decide +kernel
theorem dX11_newName_21 : decode cX11_newName 21 = .ok (.invokevirtual 191, 3) := by decide +kernel
theorem dX11_newName_24 : decode cX11_newName 24 = .ok (.ifCond .ge 14, 3) := by decide +kernel
theorem dX11_newName_27 : decode cX11_newName 27 = .ok (.aload_n 0, 1) := by decide +kernel
theorem dX11_newName_28 : decode cX11_newName 28 = .ok (.invokevirtual 194, 3) := by decide +kernel
theorem dX11_newName_31 : decode cX11_newName 31 = .ok (.ifCond .ge 7, 3) := by decide +kernel
theorem dX11_newName_34 : decode cX11_newName 34 = .ok (.iconst 1, 1) := by decide +kernel
theorem dX11_newName_35 : decode cX11_newName 35 = .ok (.goto 4, 3) := by decide +kernel
theorem dX11_newName_38 : decode cX11_newName 38 = .ok (.iconst 0, 1) := by decide +kernel
theorem dX11_newName_39 : decode cX11_newName 39 = .ok (.iconst 2, 1) := by decide +kernel
theorem dX11_newName_40 : decode cX11_newName 40 = .ok (.invokevirtual 171, 3) := by decide +kernel
theorem dX11_newName_43 : decode cX11_newName 43 = .ok (.ifCond .ne 5, 3) := by decide +kernel
theorem dX11_newName_46 : decode cX11_newName 46 = .ok (.iconst 0, 1) := by decide +kernel
theorem dX11_newName_47 : decode cX11_newName 47 = .ok (.ireturn, 1) := by decide +kernel
theorem dX11_newName_48 : decode cX11_newName 48 = .ok (.aload_n 0, 1) := by decide +kernel
theorem dX11_newName_49 : decode cX11_newName 49 = .ok (.aload_n 0, 1) := by decide +kernel
theorem dX11_newName_50 : decode cX11_newName 50 = .ok (.getfield 118, 3) := by decide +kernel
theorem dX11_newName_53 : decode cX11_newName 53 = .ok (.putfield 197, 3) := by decide +kernel
theorem dX11_newName_56 : decode cX11_newName 56 = .ok (.aload_n 0, 1) := by decide +kernel
theorem dX11_newName_57 : decode cX11_newName 57 = .ok (.invokevirtual 178, 3) := by decide +kernel
theorem dX11_newName_60 : decode cX11_newName 60 = .ok (.iconst 1, 1) := by decide +kernel
theorem dX11_newName_61 : decode cX11_newName 61 = .ok (.ireturn, 1) := by decide +kernel
theorem dX11_tableLine_0 : decode cX11_tableLine 0 = .ok (.aload_n 0, 1) := by decide +kernel
theorem dX11_tableLine_1 : decode cX11_tableLine 1 = .ok (.invokevirtual 200, 3) := by decide +kernel
theorem dX11_tableLine_4 : decode cX11_tableLine 4 = .ok (.ifCond .ne 5, 3) := by decide +kernel
theorem dX11_tableLine_7 : decode cX11_tableLine 7 = .ok (.iconst 0, 1) := by decide +kernel
theorem dX11_tableLine_8 : decode cX11_tableLine 8 = .ok (.ireturn, 1) := by decide +kernel
theorem dX11_tableLine_9 : decode cX11_tableLine 9 = .ok (.bipush 8, 2) := by decide +kernel
theorem dX11_tableLine_11 : decode cX11_tableLine 11 = .ok (.aload_n 0, 1) := by decide +kernel
theorem dX11_tableLine_12 : decode cX11_tableLine 12 = .ok (.getfield 181, 3) := by decide +kernel
theorem dX11_tableLine_15 : decode cX11_tableLine 15 = .ok (.imul, 1) := by decide +kernel
theorem dX11_tableLine_16 : decode cX11_tableLine 16 = .ok (.aload_n 0, 1) := by decide +kernel
theorem dX11_tableLine_17 : decode cX11_tableLine 17 = .ok (.getfield 17, 3) := by decide +kernel
theorem dX11_tableLine_20 : decode cX11_tableLine 20 = .ok (.aload_n 0, 1) := by decide +kernel
theorem dX11_tableLine_21 : decode cX11_tableLine 21 = .ok (.getfield 181, 3) := by decide +kernel
theorem dX11_tableLine_24 : decode cX11_tableLine 24 = .ok (.iaload, 1) := by decide +kernel
theorem dX11_tableLine_25 : decode cX11_tableLine 25 = .ok (.iadd, 1) := by decide +kernel
theorem dX11_tableLine_26 : decode cX11_tableLine 26 = .ok (.istore_n 1, 1) := by decide +kernel
theorem dX11_tableLine_27 : decode cX11_tableLine 27 = .ok (.aload_n 0, 1) := by decide +kernel
theorem dX11_tableLine_28 : decode cX11_tableLine 28 = .ok (.getfield 197, 3) := by decide +kernel
theorem dX11_tableLine_31 : decode cX11_tableLine 31 = .ok (.lstore_n 2, 1) := by decide +kernel
theorem dX11_tableLine_32 : decode cX11_tableLine 32 = .ok (.aload_n 0, 1) := by decide +kernel
theorem dX11_tableLine_33 : decode cX11_tableLine 33 = .ok (.iconst 1, 1) := by decide +kernel
theorem dX11_tableLine_34 : decode cX11_tableLine 34 = .ok (.iconst 4, 1) := by decide +kernel
theorem dX11_tableLine_35 : decode cX11_tableLine 35 = .ok (.invokevirtual 203, 3) := by decide +kernel
theorem dX11_tableLine_38 : decode cX11_tableLine 38 = .ok (.ifCond .ne 5, 3) := by decide +kernel
theorem dX11_tableLine_41 : decode cX11_tableLine 41 = .ok (.iconst 0, 1) := by decide +kernel
theorem dX11_tableLine_42 : decode cX11_tableLine 42 = .ok (.ireturn, 1) := by decide +kernel
theorem dX11_tableLine_43 : decode cX11_tableLine 43 = .ok (.aload_n 0, 1) := by decide +kernel
theorem dX11_tableLine_44 : decode cX11_tableLine 44 = .ok (.getfield 36, 3) := by decide +kernel
theorem dX11_tableLine_47 : decode cX11_tableLine 47 = .ok (.iload_n 1, 1) := by decide +kernel
theorem dX11_tableLine_48 : decode cX11_tableLine 48 = .ok (.aload_n 0, 1) := by decide +kernel
theorem dX11_tableLine_49 : decode cX11_tableLine 49 = .ok (.getfield 175, 3) := by decide +kernel
theorem dX11_tableLine_52 : decode cX11_tableLine 52 = .ok (.iastore, 1) := by decide +kernel
theorem dX11_tableLine_53 : decode cX11_tableLine 53 = .ok (.iconst 0, 1) := by decide +kernel
theorem dX11_tableLine_54 : decode cX11_tableLine 54 = .ok (.istore 4, 2) := by decide +kernel
theorem dX11_tableLine_56 : decode cX11_tableLine 56 = .ok (.iload 4, 2) := by decide +kernel
theorem dX11_tableLine_58 : decode cX11_tableLine 58 = .ok (.iconst 1, 1) := by decide +kernel
theorem dX11_tableLine_59 : decode cX11_tableLine 59 = .ok (.aload_n 0, 1) := by decide +kernel
theorem dX11_tableLine_60 : decode cX11_tableLine 60 = .ok (.getfield 36, 3) := by decide +kernel
theorem dX11_tableLine_63 : decode cX11_tableLine 63 = .ok (.iload_n 1, 1) := by decide +kernel
theorem dX11_tableLine_64 : decode cX11_tableLine 64 = .ok (.iaload, 1) := by decide +kernel
theorem dX11_tableLine_65 : decode cX11_tableLine 65 = .ok (.ishl, 1) := by decide +kernel
theorem dX11_tableLine_66 : decode cX11_tableLine 66 = .ok (.if_icmp .ge 46, 3) := by decide +kernel
theorem dX11_tableLine_69 : decode cX11_tableLine 69 = .ok (.aload_n 0, 1) := by decide +kernel
theorem dX11_tableLine_70 : decode cX11_tableLine 70 = .ok (.iconst 0, 1) := by decide +kernel
theorem dX11_tableLine_71 : decode cX11_tableLine 71 = .ok (.aload_n 0, 1) := by decide +kernel
theorem dX11_tableLine_72 : decode cX11_tableLine 72 = .ok (.getfield 13, 3) := by decide +kernel
theorem dX11_tableLine_75 : decode cX11_tableLine 75 = .ok (.aload_n 0, 1) := by decide +kernel
theorem dX11_tableLine_76 : decode cX11_tableLine 76 = .ok (.getfield 181, 3) := by decide +kernel
theorem dX11_tableLine_79 : decode cX11_tableLine 79 = .ok (.iaload, 1) := by decide +kernel
theorem dX11_tableLine_80 : decode cX11_tableLine 80 = .ok (.iconst 1, 1) := by decide +kernel
theorem dX11_tableLine_81 : decode cX11_tableLine 81 = .ok (.isub, 1) := by decide +kernel
theorem dX11_tableLine_82 : decode cX11_tableLine 82 = .ok (.invokevirtual 203, 3) := by decide +kernel
theorem dX11_tableLine_85 : decode cX11_tableLine 85 = .ok (.ifCond .ne 5, 3) := by decide +kernel
theorem dX11_tableLine_88 : decode cX11_tableLine 88 = .ok (.iconst 0, 1) := by decide +kernel
theorem dX11_tableLine_89 : decode cX11_tableLine 89 = .ok (.ireturn, 1) := by decide +kernel
theorem dX11_tableLine_90 : decode cX11_tableLine 90 = .ok (.aload_n 0, 1) := by decide +kernel
theorem dX11_tableLine_91 : decode cX11_tableLine 91 = .ok (.getfield 39, 3) := by decide +kernel
theorem dX11_tableLine_94 : decode cX11_tableLine 94 = .ok (.bipush 16, 2) := by decide +kernel
theorem dX11_tableLine_96 : decode cX11_tableLine 96 = .ok (.iload_n 1, 1) := by decide +kernel
theorem dX11_tableLine_97 : decode cX11_tableLine 97 = .ok (.imul, 1) := by decide +kernel
theorem dX11_tableLine_98 : decode cX11_tableLine 98 = .ok (.iload 4, 2) := by decide +kernel
theorem dX11_tableLine_100 : decode cX11_tableLine 100 = .ok (.iadd, 1) := by decide +kernel
theorem dX11_tableLine_101 : decode cX11_tableLine 101 = .ok (.aload_n 0, 1) := by decide +kernel
theorem dX11_tableLine_102 : decode cX11_tableLine 102 = .ok (.getfield 175, 3) := by decide +kernel
theorem dX11_tableLine_105 : decode cX11_tableLine 105 = .ok (.iastore, 1) := by decide +kernel
theorem dX11_tableLine_106 : decode cX11_tableLine 106 = .ok (.iinc 4 1, 3) := by decide +kernel
theorem dX11_tableLine_109 : decode cX11_tableLine 109 = .ok (.goto (-53), 3) := by decide +kernel
theorem dX11_tableLine_112 : decode cX11_tableLine 112 = .ok (.aload_n 0, 1) := by decide +kernel
theorem dX11_tableLine_113 : decode cX11_tableLine 113 = .ok (.getfield 26, 3) := by decide +kernel
theorem dX11_tableLine_116 : decode cX11_tableLine 116 = .ok (.iload_n 1, 1) := by decide +kernel
theorem dX11_tableLine_117 : decode cX11_tableLine 117 = .ok (.lload_n 2, 1) := by decide +kernel
theorem dX11_tableLine_118 : decode cX11_tableLine 118 = .ok (.lastore, 1) := by decide +kernel
theorem dX11_tableLine_119 : decode cX11_tableLine 119 = .ok (.aload_n 0, 1) := by decide +kernel
theorem dX11_tableLine_120 : decode cX11_tableLine 120 = .ok (.getfield 17, 3) := by decide +kernel
theorem dX11_tableLine_123 : decode cX11_tableLine 123 = .ok (.aload_n 0, 1) := by decide +kernel
theorem dX11_tableLine_124 : decode cX11_tableLine 124 = .ok (.getfield 181, 3) := by decide +kernel
theorem dX11_tableLine_127 : decode cX11_tableLine 127 = .ok (.dup2, 1) := by decide +kernel
theorem dX11_tableLine_128 : decode cX11_tableLine 128 = .ok (.iaload, 1) := by decide +kernel
theorem dX11_tableLine_129 : decode cX11_tableLine 129 = .ok (.iconst 1, 1) := by decide +kernel
theorem dX11_tableLine_130 : decode cX11_tableLine 130 = .ok (.iadd, 1) := by decide +kernel
theorem dX11_tableLine_131 : decode cX11_tableLine 131 = .ok (.iastore, 1) := by decide +kernel
theorem dX11_tableLine_132 : decode cX11_tableLine 132 = .ok (.iconst 1, 1) := by decide +kernel
theorem dX11_tableLine_133 : decode cX11_tableLine 133 = .ok (.ireturn, 1) := by decide +kernel
theorem dX11_laysMatchings_0 : decode cX11_laysMatchings 0 = .ok (.aload_n 0, 1) := by decide +kernel
theorem dX11_laysMatchings_1 : decode cX11_laysMatchings 1 = .ok (.getfield 54, 3) := by decide +kernel
theorem dX11_laysMatchings_4 : decode cX11_laysMatchings 4 = .ok (.iconst 0, 1) := by decide +kernel
theorem dX11_laysMatchings_5 : decode cX11_laysMatchings 5 = .ok (.iconst 1, 1) := by decide +kernel
theorem dX11_laysMatchings_6 : decode cX11_laysMatchings 6 = .ok (.iastore, 1) := by decide +kernel
theorem dX11_laysMatchings_7 : decode cX11_laysMatchings 7 = .ok (.iconst 1, 1) := by decide +kernel
theorem dX11_laysMatchings_8 : decode cX11_laysMatchings 8 = .ok (.istore_n 3, 1) := by decide +kernel
theorem dX11_laysMatchings_9 : decode cX11_laysMatchings 9 = .ok (.iload_n 3, 1) := by decide +kernel
theorem dX11_laysMatchings_10 : decode cX11_laysMatchings 10 = .ok (.iconst 1, 1) := by decide +kernel
theorem dX11_laysMatchings_11 : decode cX11_laysMatchings 11 = .ok (.iload_n 1, 1) := by decide +kernel
theorem dX11_laysMatchings_12 : decode cX11_laysMatchings 12 = .ok (.ishl, 1) := by decide +kernel
theorem dX11_laysMatchings_13 : decode cX11_laysMatchings 13 = .ok (.if_icmp .ge 125, 3) := by decide +kernel
theorem dX11_laysMatchings_16 : decode cX11_laysMatchings 16 = .ok (.iconst 0, 1) := by decide +kernel
theorem dX11_laysMatchings_17 : decode cX11_laysMatchings 17 = .ok (.istore 4, 2) := by decide +kernel
theorem dX11_laysMatchings_19 : decode cX11_laysMatchings 19 = .ok (.iload_n 3, 1) := by decide +kernel
theorem dX11_laysMatchings_20 : decode cX11_laysMatchings 20 = .ok (.iload 4, 2) := by decide +kernel
theorem dX11_laysMatchings_22 : decode cX11_laysMatchings 22 = .ok (.ishr, 1) := by decide +kernel
theorem dX11_laysMatchings_23 : decode cX11_laysMatchings 23 = .ok (.iconst 1, 1) := by decide +kernel
theorem dX11_laysMatchings_24 : decode cX11_laysMatchings 24 = .ok (.iand, 1) := by decide +kernel
theorem dX11_laysMatchings_25 : decode cX11_laysMatchings 25 = .ok (.ifCond .ne 9, 3) := by decide +kernel
theorem dX11_laysMatchings_28 : decode cX11_laysMatchings 28 = .ok (.iinc 4 1, 3) := by decide +kernel
theorem dX11_laysMatchings_31 : decode cX11_laysMatchings 31 = .ok (.goto (-12), 3) := by decide +kernel
theorem dX11_laysMatchings_34 : decode cX11_laysMatchings 34 = .ok (.iconst 0, 1) := by decide +kernel
theorem dX11_laysMatchings_35 : decode cX11_laysMatchings 35 = .ok (.istore 5, 2) := by decide +kernel
theorem dX11_laysMatchings_37 : decode cX11_laysMatchings 37 = .ok (.iload 4, 2) := by decide +kernel
theorem dX11_laysMatchings_39 : decode cX11_laysMatchings 39 = .ok (.iconst 1, 1) := by decide +kernel
theorem dX11_laysMatchings_40 : decode cX11_laysMatchings 40 = .ok (.iadd, 1) := by decide +kernel
theorem dX11_laysMatchings_41 : decode cX11_laysMatchings 41 = .ok (.istore 6, 2) := by decide +kernel
theorem dX11_laysMatchings_43 : decode cX11_laysMatchings 43 = .ok (.iload 6, 2) := by decide +kernel
theorem dX11_laysMatchings_45 : decode cX11_laysMatchings 45 = .ok (.iload_n 1, 1) := by decide +kernel
theorem dX11_laysMatchings_46 : decode cX11_laysMatchings 46 = .ok (.if_icmp .ge 76, 3) := by decide +kernel
theorem dX11_laysMatchings_49 : decode cX11_laysMatchings 49 = .ok (.iload_n 3, 1) := by decide +kernel
theorem dX11_laysMatchings_50 : decode cX11_laysMatchings 50 = .ok (.iload 6, 2) := by decide +kernel
theorem dX11_laysMatchings_52 : decode cX11_laysMatchings 52 = .ok (.ishr, 1) := by decide +kernel
theorem dX11_laysMatchings_53 : decode cX11_laysMatchings 53 = .ok (.iconst 1, 1) := by decide +kernel
theorem dX11_laysMatchings_54 : decode cX11_laysMatchings 54 = .ok (.iand, 1) := by decide +kernel
theorem dX11_laysMatchings_55 : decode cX11_laysMatchings 55 = .ok (.ifCond .eq 61, 3) := by decide +kernel
theorem dX11_laysMatchings_58 : decode cX11_laysMatchings 58 = .ok (.aload_n 0, 1) := by decide +kernel
