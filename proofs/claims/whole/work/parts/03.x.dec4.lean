theorem dX11_laysOpen_31 : decode cX11_laysOpen 31 = .ok (.imul, 1) := by decide +kernel
theorem dX11_laysOpen_32 : decode cX11_laysOpen 32 = .ok (.iload_n 2, 1) := by decide +kernel
theorem dX11_laysOpen_33 : decode cX11_laysOpen 33 = .ok (.iadd, 1) := by decide +kernel
theorem dX11_laysOpen_34 : decode cX11_laysOpen 34 = .ok (.invokevirtual 328, 3) := by decide +kernel
theorem dX11_laysOpen_37 : decode cX11_laysOpen 37 = .ok (.ifCond .lt 6, 3) := by decide +kernel
theorem dX11_laysOpen_40 : decode cX11_laysOpen 40 = .ok (.goto 27, 3) := by decide +kernel
theorem dX11_laysOpen_43 : decode cX11_laysOpen 43 = .ok (.aload_n 0, 1) := by decide +kernel
theorem dX11_laysOpen_44 : decode cX11_laysOpen 44 = .ok (.getfield 76, 3) := by decide +kernel
theorem dX11_laysOpen_47 : decode cX11_laysOpen 47 = .ok (.aload_n 0, 1) := by decide +kernel
theorem dX11_laysOpen_48 : decode cX11_laysOpen 48 = .ok (.getfield 325, 3) := by decide +kernel
theorem dX11_laysOpen_51 : decode cX11_laysOpen 51 = .ok (.iconst 4, 1) := by decide +kernel
theorem dX11_laysOpen_52 : decode cX11_laysOpen 52 = .ok (.iload_n 1, 1) := by decide +kernel
theorem dX11_laysOpen_53 : decode cX11_laysOpen 53 = .ok (.imul, 1) := by decide +kernel
theorem dX11_laysOpen_54 : decode cX11_laysOpen 54 = .ok (.iload_n 2, 1) := by decide +kernel
theorem dX11_laysOpen_55 : decode cX11_laysOpen 55 = .ok (.iadd, 1) := by decide +kernel
theorem dX11_laysOpen_56 : decode cX11_laysOpen 56 = .ok (.iastore, 1) := by decide +kernel
theorem dX11_laysOpen_57 : decode cX11_laysOpen 57 = .ok (.aload_n 0, 1) := by decide +kernel
theorem dX11_laysOpen_58 : decode cX11_laysOpen 58 = .ok (.dup, 1) := by decide +kernel
theorem dX11_laysOpen_59 : decode cX11_laysOpen 59 = .ok (.getfield 325, 3) := by decide +kernel
theorem dX11_laysOpen_62 : decode cX11_laysOpen 62 = .ok (.iconst 1, 1) := by decide +kernel
theorem dX11_laysOpen_63 : decode cX11_laysOpen 63 = .ok (.iadd, 1) := by decide +kernel
theorem dX11_laysOpen_64 : decode cX11_laysOpen 64 = .ok (.putfield 325, 3) := by decide +kernel
theorem dX11_laysOpen_67 : decode cX11_laysOpen 67 = .ok (.iinc 2 1, 3) := by decide +kernel
theorem dX11_laysOpen_70 : decode cX11_laysOpen 70 = .ok (.goto (-51), 3) := by decide +kernel
theorem dX11_laysOpen_73 : decode cX11_laysOpen 73 = .ok (.iinc 1 1, 3) := by decide +kernel
theorem dX11_laysOpen_76 : decode cX11_laysOpen 76 = .ok (.goto (-69), 3) := by decide +kernel
theorem dX11_laysOpen_79 : decode cX11_laysOpen 79 = .ok (.return_, 1) := by decide +kernel
theorem dX11_open_0 : decode cX11_open 0 = .ok (.aload_n 0, 1) := by decide +kernel
theorem dX11_open_1 : decode cX11_open 1 = .ok (.iconst 0, 1) := by decide +kernel
theorem dX11_open_2 : decode cX11_open 2 = .ok (.putfield 88, 3) := by decide +kernel
theorem dX11_open_5 : decode cX11_open 5 = .ok (.aload_n 0, 1) := by decide +kernel
theorem dX11_open_6 : decode cX11_open 6 = .ok (.invokevirtual 331, 3) := by decide +kernel
theorem dX11_open_9 : decode cX11_open 9 = .ok (.iload_n 1, 1) := by decide +kernel
theorem dX11_open_10 : decode cX11_open 10 = .ok (.iconst (-1), 1) := by decide +kernel
theorem dX11_open_11 : decode cX11_open 11 = .ok (.if_icmp .ne 10, 3) := by decide +kernel
theorem dX11_open_14 : decode cX11_open 14 = .ok (.aload_n 0, 1) := by decide +kernel
theorem dX11_open_15 : decode cX11_open 15 = .ok (.getfield 325, 3) := by decide +kernel
theorem dX11_open_18 : decode cX11_open 18 = .ok (.goto 44, 3) := by decide +kernel
theorem dX11_open_21 : decode cX11_open 21 = .ok (.iload_n 1, 1) := by decide +kernel
theorem dX11_open_22 : decode cX11_open 22 = .ok (.i2l, 1) := by decide +kernel
theorem dX11_open_23 : decode cX11_open 23 = .ok (.lconst 0, 1) := by decide +kernel
theorem dX11_open_24 : decode cX11_open 24 = .ok (.aload_n 0, 1) := by decide +kernel
theorem dX11_open_25 : decode cX11_open 25 = .ok (.getfield 325, 3) := by decide +kernel
theorem dX11_open_28 : decode cX11_open 28 = .ok (.iconst 1, 1) := by decide +kernel
theorem dX11_open_29 : decode cX11_open 29 = .ok (.isub, 1) := by decide +kernel
theorem dX11_open_30 : decode cX11_open 30 = .ok (.i2l, 1) := by decide +kernel
theorem dX11_open_31 : decode cX11_open 31 = .ok (.invokestatic 126, 3) := by decide +kernel
theorem dX11_open_34 : decode cX11_open 34 = .ok (.ifCond .eq 26, 3) := by decide +kernel
theorem dX11_open_37 : decode cX11_open 37 = .ok (.aload_n 0, 1) := by decide +kernel
theorem dX11_open_38 : decode cX11_open 38 = .ok (.getfield 76, 3) := by decide +kernel
theorem dX11_open_41 : decode cX11_open 41 = .ok (.iload_n 1, 1) := by decide +kernel
theorem dX11_open_42 : decode cX11_open 42 = .ok (.iaload, 1) := by decide +kernel
theorem dX11_open_43 : decode cX11_open 43 = .ok (.iconst 4, 1) := by decide +kernel
theorem dX11_open_44 : decode cX11_open 44 = .ok (.idiv, 1) := by decide +kernel
theorem dX11_open_45 : decode cX11_open 45 = .ok (.bipush 10, 2) := by decide +kernel
theorem dX11_open_47 : decode cX11_open 47 = .ok (.imul, 1) := by decide +kernel
theorem dX11_open_48 : decode cX11_open 48 = .ok (.aload_n 0, 1) := by decide +kernel
theorem dX11_open_49 : decode cX11_open 49 = .ok (.getfield 76, 3) := by decide +kernel
theorem dX11_open_52 : decode cX11_open 52 = .ok (.iload_n 1, 1) := by decide +kernel
theorem dX11_open_53 : decode cX11_open 53 = .ok (.iaload, 1) := by decide +kernel
theorem dX11_open_54 : decode cX11_open 54 = .ok (.iconst 4, 1) := by decide +kernel
theorem dX11_open_55 : decode cX11_open 55 = .ok (.irem, 1) := by decide +kernel
theorem dX11_open_56 : decode cX11_open 56 = .ok (.iadd, 1) := by decide +kernel
theorem dX11_open_57 : decode cX11_open 57 = .ok (.goto 5, 3) := by decide +kernel
theorem dX11_open_60 : decode cX11_open 60 = .ok (.bipush (-2), 2) := by decide +kernel
theorem dX11_open_62 : decode cX11_open 62 = .ok (.ireturn, 1) := by decide +kernel
theorem dX11_setsWires_0 : decode cX11_setsWires 0 = .ok (.iconst 0, 1) := by decide +kernel
theorem dX11_setsWires_1 : decode cX11_setsWires 1 = .ok (.istore_n 2, 1) := by decide +kernel
theorem dX11_setsWires_2 : decode cX11_setsWires 2 = .ok (.iload_n 2, 1) := by decide +kernel
theorem dX11_setsWires_3 : decode cX11_setsWires 3 = .ok (.aload_n 0, 1) := by decide +kernel
theorem dX11_setsWires_4 : decode cX11_setsWires 4 = .ok (.getfield 57, 3) := by decide +kernel
theorem dX11_setsWires_7 : decode cX11_setsWires 7 = .ok (.bipush 116, 2) := by decide +kernel
theorem dX11_setsWires_9 : decode cX11_setsWires 9 = .ok (.iaload, 1) := by decide +kernel
theorem dX11_setsWires_10 : decode cX11_setsWires 10 = .ok (.if_icmp .ge 53, 3) := by decide +kernel
theorem dX11_setsWires_13 : decode cX11_setsWires 13 = .ok (.aload_n 0, 1) := by decide +kernel
theorem dX11_setsWires_14 : decode cX11_setsWires 14 = .ok (.getfield 79, 3) := by decide +kernel
theorem dX11_setsWires_17 : decode cX11_setsWires 17 = .ok (.aload_n 0, 1) := by decide +kernel
theorem dX11_setsWires_18 : decode cX11_setsWires 18 = .ok (.getfield 57, 3) := by decide +kernel
theorem dX11_setsWires_21 : decode cX11_setsWires 21 = .ok (.bipush 96, 2) := by decide +kernel
theorem dX11_setsWires_23 : decode cX11_setsWires 23 = .ok (.iconst 2, 1) := by decide +kernel
theorem dX11_setsWires_24 : decode cX11_setsWires 24 = .ok (.iload_n 2, 1) := by decide +kernel
theorem dX11_setsWires_25 : decode cX11_setsWires 25 = .ok (.imul, 1) := by decide +kernel
theorem dX11_setsWires_26 : decode cX11_setsWires 26 = .ok (.iadd, 1) := by decide +kernel
theorem dX11_setsWires_27 : decode cX11_setsWires 27 = .ok (.iaload, 1) := by decide +kernel
theorem dX11_setsWires_28 : decode cX11_setsWires 28 = .ok (.iload_n 1, 1) := by decide +kernel
theorem dX11_setsWires_29 : decode cX11_setsWires 29 = .ok (.iload_n 2, 1) := by decide +kernel
theorem dX11_setsWires_30 : decode cX11_setsWires 30 = .ok (.ishr, 1) := by decide +kernel
theorem dX11_setsWires_31 : decode cX11_setsWires 31 = .ok (.iconst 1, 1) := by decide +kernel
theorem dX11_setsWires_32 : decode cX11_setsWires 32 = .ok (.iand, 1) := by decide +kernel
theorem dX11_setsWires_33 : decode cX11_setsWires 33 = .ok (.iastore, 1) := by decide +kernel
theorem dX11_setsWires_34 : decode cX11_setsWires 34 = .ok (.aload_n 0, 1) := by decide +kernel
theorem dX11_setsWires_35 : decode cX11_setsWires 35 = .ok (.getfield 79, 3) := by decide +kernel
theorem dX11_setsWires_38 : decode cX11_setsWires 38 = .ok (.aload_n 0, 1) := by decide +kernel
theorem dX11_setsWires_39 : decode cX11_setsWires 39 = .ok (.getfield 57, 3) := by decide +kernel
theorem dX11_setsWires_42 : decode cX11_setsWires 42 = .ok (.bipush 96, 2) := by decide +kernel
theorem dX11_setsWires_44 : decode cX11_setsWires 44 = .ok (.iconst 2, 1) := by decide +kernel
theorem dX11_setsWires_45 : decode cX11_setsWires 45 = .ok (.iload_n 2, 1) := by decide +kernel
theorem dX11_setsWires_46 : decode cX11_setsWires 46 = .ok (.imul, 1) := by decide +kernel
theorem dX11_setsWires_47 : decode cX11_setsWires 47 = .ok (.iadd, 1) := by decide +kernel
theorem dX11_setsWires_48 : decode cX11_setsWires 48 = .ok (.iconst 1, 1) := by decide +kernel
theorem dX11_setsWires_49 : decode cX11_setsWires 49 = .ok (.iadd, 1) := by decide +kernel
theorem dX11_setsWires_50 : decode cX11_setsWires 50 = .ok (.iaload, 1) := by decide +kernel
theorem dX11_setsWires_51 : decode cX11_setsWires 51 = .ok (.iload_n 1, 1) := by decide +kernel
theorem dX11_setsWires_52 : decode cX11_setsWires 52 = .ok (.iload_n 2, 1) := by decide +kernel
theorem dX11_setsWires_53 : decode cX11_setsWires 53 = .ok (.ishr, 1) := by decide +kernel
theorem dX11_setsWires_54 : decode cX11_setsWires 54 = .ok (.iconst 1, 1) := by decide +kernel
theorem dX11_setsWires_55 : decode cX11_setsWires 55 = .ok (.iand, 1) := by decide +kernel
theorem dX11_setsWires_56 : decode cX11_setsWires 56 = .ok (.iastore, 1) := by decide +kernel
theorem dX11_setsWires_57 : decode cX11_setsWires 57 = .ok (.iinc 2 1, 3) := by decide +kernel
theorem dX11_setsWires_60 : decode cX11_setsWires 60 = .ok (.goto (-58), 3) := by decide +kernel
theorem dX11_setsWires_63 : decode cX11_setsWires 63 = .ok (.return_, 1) := by decide +kernel
theorem dX11_valueOf_0 : decode cX11_valueOf 0 = .ok (.iconst 0, 1) := by decide +kernel
theorem dX11_valueOf_1 : decode cX11_valueOf 1 = .ok (.istore_n 2, 1) := by decide +kernel
theorem dX11_valueOf_2 : decode cX11_valueOf 2 = .ok (.iconst 0, 1) := by decide +kernel
theorem dX11_valueOf_3 : decode cX11_valueOf 3 = .ok (.istore_n 3, 1) := by decide +kernel
theorem dX11_valueOf_4 : decode cX11_valueOf 4 = .ok (.iload_n 3, 1) := by decide +kernel
theorem dX11_valueOf_5 : decode cX11_valueOf 5 = .ok (.iconst 1, 1) := by decide +kernel
theorem dX11_valueOf_6 : decode cX11_valueOf 6 = .ok (.aload_n 0, 1) := by decide +kernel
theorem dX11_valueOf_7 : decode cX11_valueOf 7 = .ok (.iload_n 1, 1) := by decide +kernel
theorem dX11_valueOf_8 : decode cX11_valueOf 8 = .ok (.invokevirtual 319, 3) := by decide +kernel
theorem dX11_valueOf_11 : decode cX11_valueOf 11 = .ok (.ishl, 1) := by decide +kernel
theorem dX11_valueOf_12 : decode cX11_valueOf 12 = .ok (.if_icmp .ge 99, 3) := by decide +kernel
theorem dX11_valueOf_15 : decode cX11_valueOf 15 = .ok (.iconst 1, 1) := by decide +kernel
theorem dX11_valueOf_16 : decode cX11_valueOf 16 = .ok (.istore 4, 2) := by decide +kernel
theorem dX11_valueOf_18 : decode cX11_valueOf 18 = .ok (.iconst 0, 1) := by decide +kernel
theorem dX11_valueOf_19 : decode cX11_valueOf 19 = .ok (.istore 5, 2) := by decide +kernel
theorem dX11_valueOf_21 : decode cX11_valueOf 21 = .ok (.iload 5, 2) := by decide +kernel
theorem dX11_valueOf_23 : decode cX11_valueOf 23 = .ok (.aload_n 0, 1) := by decide +kernel
theorem dX11_valueOf_24 : decode cX11_valueOf 24 = .ok (.iload_n 1, 1) := by decide +kernel
theorem dX11_valueOf_25 : decode cX11_valueOf 25 = .ok (.invokevirtual 319, 3) := by decide +kernel
theorem dX11_valueOf_28 : decode cX11_valueOf 28 = .ok (.if_icmp .ge 54, 3) := by decide +kernel
theorem dX11_valueOf_31 : decode cX11_valueOf 31 = .ok (.iload 4, 2) := by decide +kernel
theorem dX11_valueOf_33 : decode cX11_valueOf 33 = .ok (.aload_n 0, 1) := by decide +kernel
theorem dX11_valueOf_34 : decode cX11_valueOf 34 = .ok (.getfield 79, 3) := by decide +kernel
theorem dX11_valueOf_37 : decode cX11_valueOf 37 = .ok (.iconst 4, 1) := by decide +kernel
theorem dX11_valueOf_38 : decode cX11_valueOf 38 = .ok (.iload_n 1, 1) := by decide +kernel
theorem dX11_valueOf_39 : decode cX11_valueOf 39 = .ok (.imul, 1) := by decide +kernel
theorem dX11_valueOf_40 : decode cX11_valueOf 40 = .ok (.iload 5, 2) := by decide +kernel
theorem dX11_valueOf_42 : decode cX11_valueOf 42 = .ok (.iadd, 1) := by decide +kernel
theorem dX11_valueOf_43 : decode cX11_valueOf 43 = .ok (.iaload, 1) := by decide +kernel
theorem dX11_valueOf_44 : decode cX11_valueOf 44 = .ok (.iconst 2, 1) := by decide +kernel
theorem dX11_valueOf_45 : decode cX11_valueOf 45 = .ok (.if_icmp .eq 23, 3) := by decide +kernel
theorem dX11_valueOf_48 : decode cX11_valueOf 48 = .ok (.aload_n 0, 1) := by decide +kernel
theorem dX11_valueOf_49 : decode cX11_valueOf 49 = .ok (.getfield 79, 3) := by decide +kernel
theorem dX11_valueOf_52 : decode cX11_valueOf 52 = .ok (.iconst 4, 1) := by decide +kernel
theorem dX11_valueOf_53 : decode cX11_valueOf 53 = .ok (.iload_n 1, 1) := by decide +kernel
theorem dX11_valueOf_54 : decode cX11_valueOf 54 = .ok (.imul, 1) := by decide +kernel
theorem dX11_valueOf_55 : decode cX11_valueOf 55 = .ok (.iload 5, 2) := by decide +kernel
theorem dX11_valueOf_57 : decode cX11_valueOf 57 = .ok (.iadd, 1) := by decide +kernel
theorem dX11_valueOf_58 : decode cX11_valueOf 58 = .ok (.iaload, 1) := by decide +kernel
theorem dX11_valueOf_59 : decode cX11_valueOf 59 = .ok (.iload_n 3, 1) := by decide +kernel
theorem dX11_valueOf_60 : decode cX11_valueOf 60 = .ok (.iload 5, 2) := by decide +kernel
theorem dX11_valueOf_62 : decode cX11_valueOf 62 = .ok (.ishr, 1) := by decide +kernel
theorem dX11_valueOf_63 : decode cX11_valueOf 63 = .ok (.iconst 1, 1) := by decide +kernel
theorem dX11_valueOf_64 : decode cX11_valueOf 64 = .ok (.iand, 1) := by decide +kernel
theorem dX11_valueOf_65 : decode cX11_valueOf 65 = .ok (.if_icmp .ne 7, 3) := by decide +kernel
theorem dX11_valueOf_68 : decode cX11_valueOf 68 = .ok (.iconst 1, 1) := by decide +kernel
theorem dX11_valueOf_69 : decode cX11_valueOf 69 = .ok (.goto 4, 3) := by decide +kernel
theorem dX11_valueOf_72 : decode cX11_valueOf 72 = .ok (.iconst 0, 1) := by decide +kernel
theorem dX11_valueOf_73 : decode cX11_valueOf 73 = .ok (.iand, 1) := by decide +kernel
theorem dX11_valueOf_74 : decode cX11_valueOf 74 = .ok (.istore 4, 2) := by decide +kernel
theorem dX11_valueOf_76 : decode cX11_valueOf 76 = .ok (.iinc 5 1, 3) := by decide +kernel
theorem dX11_valueOf_79 : decode cX11_valueOf 79 = .ok (.goto (-58), 3) := by decide +kernel
theorem dX11_valueOf_82 : decode cX11_valueOf 82 = .ok (.iload_n 2, 1) := by decide +kernel
theorem dX11_valueOf_83 : decode cX11_valueOf 83 = .ok (.iload 4, 2) := by decide +kernel
theorem dX11_valueOf_85 : decode cX11_valueOf 85 = .ok (.ifCond .eq 17, 3) := by decide +kernel
theorem dX11_valueOf_88 : decode cX11_valueOf 88 = .ok (.aload_n 0, 1) := by decide +kernel
theorem dX11_valueOf_89 : decode cX11_valueOf 89 = .ok (.getfield 57, 3) := by decide +kernel
theorem dX11_valueOf_92 : decode cX11_valueOf 92 = .ok (.bipush 16, 2) := by decide +kernel
theorem dX11_valueOf_94 : decode cX11_valueOf 94 = .ok (.iload_n 1, 1) := by decide +kernel
theorem dX11_valueOf_95 : decode cX11_valueOf 95 = .ok (.imul, 1) := by decide +kernel
theorem dX11_valueOf_96 : decode cX11_valueOf 96 = .ok (.iload_n 3, 1) := by decide +kernel
theorem dX11_valueOf_97 : decode cX11_valueOf 97 = .ok (.iadd, 1) := by decide +kernel
theorem dX11_valueOf_98 : decode cX11_valueOf 98 = .ok (.iaload, 1) := by decide +kernel
theorem dX11_valueOf_99 : decode cX11_valueOf 99 = .ok (.goto 4, 3) := by decide +kernel
theorem dX11_valueOf_102 : decode cX11_valueOf 102 = .ok (.iconst 0, 1) := by decide +kernel
theorem dX11_valueOf_103 : decode cX11_valueOf 103 = .ok (.iadd, 1) := by decide +kernel
theorem dX11_valueOf_104 : decode cX11_valueOf 104 = .ok (.istore_n 2, 1) := by decide +kernel
theorem dX11_valueOf_105 : decode cX11_valueOf 105 = .ok (.iinc 3 1, 3) := by decide +kernel
theorem dX11_valueOf_108 : decode cX11_valueOf 108 = .ok (.goto (-104), 3) := by decide +kernel
theorem dX11_valueOf_111 : decode cX11_valueOf 111 = .ok (.iload_n 2, 1) := by decide +kernel
theorem dX11_valueOf_112 : decode cX11_valueOf 112 = .ok (.aload_n 0, 1) := by decide +kernel
theorem dX11_valueOf_113 : decode cX11_valueOf 113 = .ok (.invokevirtual 266, 3) := by decide +kernel
theorem dX11_valueOf_116 : decode cX11_valueOf 116 = .ok (.irem, 1) := by decide +kernel
theorem dX11_valueOf_117 : decode cX11_valueOf 117 = .ok (.ireturn, 1) := by decide +kernel
theorem dX11_product_0 : decode cX11_product 0 = .ok (.iconst 1, 1) := by decide +kernel
theorem dX11_product_1 : decode cX11_product 1 = .ok (.istore_n 2, 1) := by decide +kernel
theorem dX11_product_2 : decode cX11_product 2 = .ok (.iconst 0, 1) := by decide +kernel
theorem dX11_product_3 : decode cX11_product 3 = .ok (.istore_n 3, 1) := by decide +kernel
theorem dX11_product_4 : decode cX11_product 4 = .ok (.iload_n 3, 1) := by decide +kernel
theorem dX11_product_5 : decode cX11_product 5 = .ok (.aload_n 0, 1) := by decide +kernel
theorem dX11_product_6 : decode cX11_product 6 = .ok (.getfield 23, 3) := by decide +kernel
theorem dX11_product_9 : decode cX11_product 9 = .ok (.iconst 0, 1) := by decide +kernel
theorem dX11_product_10 : decode cX11_product 10 = .ok (.iaload, 1) := by decide +kernel
theorem dX11_product_11 : decode cX11_product 11 = .ok (.if_icmp .ge 35, 3) := by decide +kernel
theorem dX11_product_14 : decode cX11_product 14 = .ok (.iload_n 1, 1) := by decide +kernel
theorem dX11_product_15 : decode cX11_product 15 = .ok (.iload_n 3, 1) := by decide +kernel
theorem dX11_product_16 : decode cX11_product 16 = .ok (.ishr, 1) := by decide +kernel
theorem dX11_product_17 : decode cX11_product 17 = .ok (.iconst 1, 1) := by decide +kernel
theorem dX11_product_18 : decode cX11_product 18 = .ok (.iand, 1) := by decide +kernel
theorem dX11_product_19 : decode cX11_product 19 = .ok (.iconst 1, 1) := by decide +kernel
theorem dX11_product_20 : decode cX11_product 20 = .ok (.if_icmp .ne 18, 3) := by decide +kernel
theorem dX11_product_23 : decode cX11_product 23 = .ok (.iload_n 2, 1) := by decide +kernel
theorem dX11_product_24 : decode cX11_product 24 = .ok (.aload_n 0, 1) := by decide +kernel
theorem dX11_product_25 : decode cX11_product 25 = .ok (.iload_n 3, 1) := by decide +kernel
theorem dX11_product_26 : decode cX11_product 26 = .ok (.invokevirtual 334, 3) := by decide +kernel
theorem dX11_product_29 : decode cX11_product 29 = .ok (.imul, 1) := by decide +kernel
theorem dX11_product_30 : decode cX11_product 30 = .ok (.aload_n 0, 1) := by decide +kernel
theorem dX11_product_31 : decode cX11_product 31 = .ok (.invokevirtual 266, 3) := by decide +kernel
theorem dX11_product_34 : decode cX11_product 34 = .ok (.irem, 1) := by decide +kernel
theorem dX11_product_35 : decode cX11_product 35 = .ok (.goto 4, 3) := by decide +kernel
theorem dX11_product_38 : decode cX11_product 38 = .ok (.iload_n 2, 1) := by decide +kernel
theorem dX11_product_39 : decode cX11_product 39 = .ok (.istore_n 2, 1) := by decide +kernel
theorem dX11_product_40 : decode cX11_product 40 = .ok (.iinc 3 1, 3) := by decide +kernel
theorem dX11_product_43 : decode cX11_product 43 = .ok (.goto (-39), 3) := by decide +kernel
theorem dX11_product_46 : decode cX11_product 46 = .ok (.iload_n 2, 1) := by decide +kernel
theorem dX11_product_47 : decode cX11_product 47 = .ok (.ireturn, 1) := by decide +kernel
theorem dX11_allNodes_0 : decode cX11_allNodes 0 = .ok (.iconst 1, 1) := by decide +kernel
theorem dX11_allNodes_1 : decode cX11_allNodes 1 = .ok (.aload_n 0, 1) := by decide +kernel
theorem dX11_allNodes_2 : decode cX11_allNodes 2 = .ok (.getfield 23, 3) := by decide +kernel
theorem dX11_allNodes_5 : decode cX11_allNodes 5 = .ok (.iconst 0, 1) := by decide +kernel
theorem dX11_allNodes_6 : decode cX11_allNodes 6 = .ok (.iaload, 1) := by decide +kernel
theorem dX11_allNodes_7 : decode cX11_allNodes 7 = .ok (.ishl, 1) := by decide +kernel
theorem dX11_allNodes_8 : decode cX11_allNodes 8 = .ok (.iconst 1, 1) := by decide +kernel
theorem dX11_allNodes_9 : decode cX11_allNodes 9 = .ok (.isub, 1) := by decide +kernel
theorem dX11_allNodes_10 : decode cX11_allNodes 10 = .ok (.ireturn, 1) := by decide +kernel
theorem dX11_laysIndex_0 : decode cX11_laysIndex 0 = .ok (.aload_n 0, 1) := by decide +kernel
theorem dX11_laysIndex_1 : decode cX11_laysIndex 1 = .ok (.invokevirtual 331, 3) := by decide +kernel
theorem dX11_laysIndex_4 : decode cX11_laysIndex 4 = .ok (.iload_n 1, 1) := by decide +kernel
theorem dX11_laysIndex_5 : decode cX11_laysIndex 5 = .ok (.i2l, 1) := by decide +kernel
theorem dX11_laysIndex_6 : decode cX11_laysIndex 6 = .ok (.lconst 0, 1) := by decide +kernel
theorem dX11_laysIndex_7 : decode cX11_laysIndex 7 = .ok (.iconst 1, 1) := by decide +kernel
theorem dX11_laysIndex_8 : decode cX11_laysIndex 8 = .ok (.aload_n 0, 1) := by decide +kernel
theorem dX11_laysIndex_9 : decode cX11_laysIndex 9 = .ok (.getfield 325, 3) := by decide +kernel
theorem dX11_laysIndex_12 : decode cX11_laysIndex 12 = .ok (.ishl, 1) := by decide +kernel
theorem dX11_laysIndex_13 : decode cX11_laysIndex 13 = .ok (.iconst 1, 1) := by decide +kernel
theorem dX11_laysIndex_14 : decode cX11_laysIndex 14 = .ok (.isub, 1) := by decide +kernel
theorem dX11_laysIndex_15 : decode cX11_laysIndex 15 = .ok (.i2l, 1) := by decide +kernel
theorem dX11_laysIndex_16 : decode cX11_laysIndex 16 = .ok (.invokestatic 126, 3) := by decide +kernel
theorem dX11_laysIndex_19 : decode cX11_laysIndex 19 = .ok (.ifCond .ne 5, 3) := by decide +kernel
theorem dX11_laysIndex_22 : decode cX11_laysIndex 22 = .ok (.iconst 0, 1) := by decide +kernel
theorem dX11_laysIndex_23 : decode cX11_laysIndex 23 = .ok (.ireturn, 1) := by decide +kernel
theorem dX11_laysIndex_24 : decode cX11_laysIndex 24 = .ok (.iconst 0, 1) := by decide +kernel
theorem dX11_laysIndex_25 : decode cX11_laysIndex 25 = .ok (.istore_n 2, 1) := by decide +kernel
theorem dX11_laysIndex_26 : decode cX11_laysIndex 26 = .ok (.iload_n 2, 1) := by decide +kernel
theorem dX11_laysIndex_27 : decode cX11_laysIndex 27 = .ok (.aload_n 0, 1) := by decide +kernel
theorem dX11_laysIndex_28 : decode cX11_laysIndex 28 = .ok (.getfield 325, 3) := by decide +kernel
theorem dX11_laysIndex_31 : decode cX11_laysIndex 31 = .ok (.if_icmp .ge 25, 3) := by decide +kernel
theorem dX11_laysIndex_34 : decode cX11_laysIndex 34 = .ok (.aload_n 0, 1) := by decide +kernel
theorem dX11_laysIndex_35 : decode cX11_laysIndex 35 = .ok (.getfield 79, 3) := by decide +kernel
theorem dX11_laysIndex_38 : decode cX11_laysIndex 38 = .ok (.aload_n 0, 1) := by decide +kernel
theorem dX11_laysIndex_39 : decode cX11_laysIndex 39 = .ok (.getfield 76, 3) := by decide +kernel
theorem dX11_laysIndex_42 : decode cX11_laysIndex 42 = .ok (.iload_n 2, 1) := by decide +kernel
theorem dX11_laysIndex_43 : decode cX11_laysIndex 43 = .ok (.iaload, 1) := by decide +kernel
theorem dX11_laysIndex_44 : decode cX11_laysIndex 44 = .ok (.iload_n 1, 1) := by decide +kernel
theorem dX11_laysIndex_45 : decode cX11_laysIndex 45 = .ok (.iload_n 2, 1) := by decide +kernel
theorem dX11_laysIndex_46 : decode cX11_laysIndex 46 = .ok (.ishr, 1) := by decide +kernel
theorem dX11_laysIndex_47 : decode cX11_laysIndex 47 = .ok (.iconst 1, 1) := by decide +kernel
theorem dX11_laysIndex_48 : decode cX11_laysIndex 48 = .ok (.iand, 1) := by decide +kernel
theorem dX11_laysIndex_49 : decode cX11_laysIndex 49 = .ok (.iastore, 1) := by decide +kernel
theorem dX11_laysIndex_50 : decode cX11_laysIndex 50 = .ok (.iinc 2 1, 3) := by decide +kernel
theorem dX11_laysIndex_53 : decode cX11_laysIndex 53 = .ok (.goto (-27), 3) := by decide +kernel
theorem dX11_laysIndex_56 : decode cX11_laysIndex 56 = .ok (.iconst 1, 1) := by decide +kernel
theorem dX11_laysIndex_57 : decode cX11_laysIndex 57 = .ok (.ireturn, 1) := by decide +kernel
theorem dX11_summed_0 : decode cX11_summed 0 = .ok (.iconst 0, 1) := by decide +kernel
theorem dX11_summed_1 : decode cX11_summed 1 = .ok (.istore_n 2, 1) := by decide +kernel
theorem dX11_summed_2 : decode cX11_summed 2 = .ok (.iconst 0, 1) := by decide +kernel
theorem dX11_summed_3 : decode cX11_summed 3 = .ok (.istore_n 3, 1) := by decide +kernel
theorem dX11_summed_4 : decode cX11_summed 4 = .ok (.iload_n 3, 1) := by decide +kernel
theorem dX11_summed_5 : decode cX11_summed 5 = .ok (.iconst 1, 1) := by decide +kernel
theorem dX11_summed_6 : decode cX11_summed 6 = .ok (.aload_n 0, 1) := by decide +kernel
theorem dX11_summed_7 : decode cX11_summed 7 = .ok (.getfield 57, 3) := by decide +kernel
theorem dX11_summed_10 : decode cX11_summed 10 = .ok (.bipush 116, 2) := by decide +kernel
theorem dX11_summed_12 : decode cX11_summed 12 = .ok (.iaload, 1) := by decide +kernel
theorem dX11_summed_13 : decode cX11_summed 13 = .ok (.ishl, 1) := by decide +kernel
theorem dX11_summed_14 : decode cX11_summed 14 = .ok (.if_icmp .ge 53, 3) := by decide +kernel
theorem dX11_summed_17 : decode cX11_summed 17 = .ok (.aload_n 0, 1) := by decide +kernel
theorem dX11_summed_18 : decode cX11_summed 18 = .ok (.iload_n 3, 1) := by decide +kernel
theorem dX11_summed_19 : decode cX11_summed 19 = .ok (.invokevirtual 337, 3) := by decide +kernel
theorem dX11_summed_22 : decode cX11_summed 22 = .ok (.aload_n 0, 1) := by decide +kernel
theorem dX11_summed_23 : decode cX11_summed 23 = .ok (.aload_n 0, 1) := by decide +kernel
theorem dX11_summed_24 : decode cX11_summed 24 = .ok (.invokevirtual 340, 3) := by decide +kernel
theorem dX11_summed_27 : decode cX11_summed 27 = .ok (.invokevirtual 343, 3) := by decide +kernel
theorem dX11_summed_30 : decode cX11_summed 30 = .ok (.istore 4, 2) := by decide +kernel
theorem dX11_summed_32 : decode cX11_summed 32 = .ok (.iload_n 1, 1) := by decide +kernel
theorem dX11_summed_33 : decode cX11_summed 33 = .ok (.ifCond .eq 18, 3) := by decide +kernel
theorem dX11_summed_36 : decode cX11_summed 36 = .ok (.iload_n 2, 1) := by decide +kernel
theorem dX11_summed_37 : decode cX11_summed 37 = .ok (.iload 4, 2) := by decide +kernel
theorem dX11_summed_39 : decode cX11_summed 39 = .ok (.ifCond .ne 7, 3) := by decide +kernel
theorem dX11_summed_42 : decode cX11_summed 42 = .ok (.iconst 0, 1) := by decide +kernel
theorem dX11_summed_43 : decode cX11_summed 43 = .ok (.goto 4, 3) := by decide +kernel
theorem dX11_summed_46 : decode cX11_summed 46 = .ok (.iconst 1, 1) := by decide +kernel
theorem dX11_summed_47 : decode cX11_summed 47 = .ok (.iadd, 1) := by decide +kernel
theorem dX11_summed_48 : decode cX11_summed 48 = .ok (.goto 12, 3) := by decide +kernel
theorem dX11_summed_51 : decode cX11_summed 51 = .ok (.iload_n 2, 1) := by decide +kernel
theorem dX11_summed_52 : decode cX11_summed 52 = .ok (.iload 4, 2) := by decide +kernel
theorem dX11_summed_54 : decode cX11_summed 54 = .ok (.iadd, 1) := by decide +kernel
theorem dX11_summed_55 : decode cX11_summed 55 = .ok (.aload_n 0, 1) := by decide +kernel
theorem dX11_summed_56 : decode cX11_summed 56 = .ok (.invokevirtual 266, 3) := by decide +kernel
theorem dX11_summed_59 : decode cX11_summed 59 = .ok (.irem, 1) := by decide +kernel
theorem dX11_summed_60 : decode cX11_summed 60 = .ok (.istore_n 2, 1) := by decide +kernel
theorem dX11_summed_61 : decode cX11_summed 61 = .ok (.iinc 3 1, 3) := by decide +kernel
theorem dX11_summed_64 : decode cX11_summed 64 = .ok (.goto (-60), 3) := by decide +kernel
theorem dX11_summed_67 : decode cX11_summed 67 = .ok (.iload_n 2, 1) := by decide +kernel
theorem dX11_summed_68 : decode cX11_summed 68 = .ok (.ireturn, 1) := by decide +kernel
theorem dX11_sum_0 : decode cX11_sum 0 = .ok (.aload_n 0, 1) := by decide +kernel
theorem dX11_sum_1 : decode cX11_sum 1 = .ok (.iconst 0, 1) := by decide +kernel
theorem dX11_sum_2 : decode cX11_sum 2 = .ok (.putfield 88, 3) := by decide +kernel
theorem dX11_sum_5 : decode cX11_sum 5 = .ok (.aload_n 0, 1) := by decide +kernel
theorem dX11_sum_6 : decode cX11_sum 6 = .ok (.iload_n 1, 1) := by decide +kernel
theorem dX11_sum_7 : decode cX11_sum 7 = .ok (.invokevirtual 346, 3) := by decide +kernel
theorem dX11_sum_10 : decode cX11_sum 10 = .ok (.ifCond .eq 11, 3) := by decide +kernel
theorem dX11_sum_13 : decode cX11_sum 13 = .ok (.aload_n 0, 1) := by decide +kernel
theorem dX11_sum_14 : decode cX11_sum 14 = .ok (.iconst 0, 1) := by decide +kernel
theorem dX11_sum_15 : decode cX11_sum 15 = .ok (.invokevirtual 349, 3) := by decide +kernel
theorem dX11_sum_18 : decode cX11_sum 18 = .ok (.goto 4, 3) := by decide +kernel
theorem dX11_sum_21 : decode cX11_sum 21 = .ok (.iconst (-1), 1) := by decide +kernel
theorem dX11_sum_22 : decode cX11_sum 22 = .ok (.ireturn, 1) := by decide +kernel
theorem dX11_ways_0 : decode cX11_ways 0 = .ok (.aload_n 0, 1) := by decide +kernel
theorem dX11_ways_1 : decode cX11_ways 1 = .ok (.iconst 0, 1) := by decide +kernel
theorem dX11_ways_2 : decode cX11_ways 2 = .ok (.putfield 88, 3) := by decide +kernel
theorem dX11_ways_5 : decode cX11_ways 5 = .ok (.aload_n 0, 1) := by decide +kernel
theorem dX11_ways_6 : decode cX11_ways 6 = .ok (.iload_n 1, 1) := by decide +kernel
theorem dX11_ways_7 : decode cX11_ways 7 = .ok (.invokevirtual 346, 3) := by decide +kernel
theorem dX11_ways_10 : decode cX11_ways 10 = .ok (.ifCond .eq 11, 3) := by decide +kernel
theorem dX11_ways_13 : decode cX11_ways 13 = .ok (.aload_n 0, 1) := by decide +kernel
theorem dX11_ways_14 : decode cX11_ways 14 = .ok (.iconst 1, 1) := by decide +kernel
theorem dX11_ways_15 : decode cX11_ways 15 = .ok (.invokevirtual 349, 3) := by decide +kernel
theorem dX11_ways_18 : decode cX11_ways 18 = .ok (.goto 4, 3) := by decide +kernel
theorem dX11_ways_21 : decode cX11_ways 21 = .ok (.iconst (-1), 1) := by decide +kernel
theorem dX11_ways_22 : decode cX11_ways 22 = .ok (.ireturn, 1) := by decide +kernel
theorem dX11_total_0 : decode cX11_total 0 = .ok (.aload_n 0, 1) := by decide +kernel
theorem dX11_total_1 : decode cX11_total 1 = .ok (.iconst 0, 1) := by decide +kernel
theorem dX11_total_2 : decode cX11_total 2 = .ok (.putfield 88, 3) := by decide +kernel
theorem dX11_total_5 : decode cX11_total 5 = .ok (.aload_n 0, 1) := by decide +kernel
theorem dX11_total_6 : decode cX11_total 6 = .ok (.invokevirtual 331, 3) := by decide +kernel
theorem dX11_total_9 : decode cX11_total 9 = .ok (.iconst 0, 1) := by decide +kernel
theorem dX11_total_10 : decode cX11_total 10 = .ok (.istore_n 1, 1) := by decide +kernel
theorem dX11_total_11 : decode cX11_total 11 = .ok (.iload_n 1, 1) := by decide +kernel
theorem dX11_total_12 : decode cX11_total 12 = .ok (.aload_n 0, 1) := by decide +kernel
theorem dX11_total_13 : decode cX11_total 13 = .ok (.getfield 325, 3) := by decide +kernel
theorem dX11_total_16 : decode cX11_total 16 = .ok (.if_icmp .ge 21, 3) := by decide +kernel
theorem dX11_total_19 : decode cX11_total 19 = .ok (.aload_n 0, 1) := by decide +kernel
theorem dX11_total_20 : decode cX11_total 20 = .ok (.getfield 79, 3) := by decide +kernel
theorem dX11_total_23 : decode cX11_total 23 = .ok (.aload_n 0, 1) := by decide +kernel
theorem dX11_total_24 : decode cX11_total 24 = .ok (.getfield 76, 3) := by decide +kernel
theorem dX11_total_27 : decode cX11_total 27 = .ok (.iload_n 1, 1) := by decide +kernel
theorem dX11_total_28 : decode cX11_total 28 = .ok (.iaload, 1) := by decide +kernel
theorem dX11_total_29 : decode cX11_total 29 = .ok (.iconst 2, 1) := by decide +kernel
theorem dX11_total_30 : decode cX11_total 30 = .ok (.iastore, 1) := by decide +kernel
theorem dX11_total_31 : decode cX11_total 31 = .ok (.iinc 1 1, 3) := by decide +kernel
theorem dX11_total_34 : decode cX11_total 34 = .ok (.goto (-23), 3) := by decide +kernel
theorem dX11_total_37 : decode cX11_total 37 = .ok (.aload_n 0, 1) := by decide +kernel
theorem dX11_total_38 : decode cX11_total 38 = .ok (.iconst 0, 1) := by decide +kernel
theorem dX11_total_39 : decode cX11_total 39 = .ok (.invokevirtual 349, 3) := by decide +kernel
theorem dX11_total_42 : decode cX11_total 42 = .ok (.ireturn, 1) := by decide +kernel
theorem dX11_isInside_0 : decode cX11_isInside 0 = .ok (.iload_n 2, 1) := by decide +kernel
theorem dX11_isInside_1 : decode cX11_isInside 1 = .ok (.aload_n 0, 1) := by decide +kernel
theorem dX11_isInside_2 : decode cX11_isInside 2 = .ok (.getfield 57, 3) := by decide +kernel
theorem dX11_isInside_5 : decode cX11_isInside 5 = .ok (.bipush 96, 2) := by decide +kernel
theorem dX11_isInside_7 : decode cX11_isInside 7 = .ok (.iconst 2, 1) := by decide +kernel
theorem dX11_isInside_8 : decode cX11_isInside 8 = .ok (.iload_n 1, 1) := by decide +kernel
theorem dX11_isInside_9 : decode cX11_isInside 9 = .ok (.imul, 1) := by decide +kernel
theorem dX11_isInside_10 : decode cX11_isInside 10 = .ok (.iadd, 1) := by decide +kernel
theorem dX11_isInside_11 : decode cX11_isInside 11 = .ok (.iaload, 1) := by decide +kernel
theorem dX11_isInside_12 : decode cX11_isInside 12 = .ok (.iconst 4, 1) := by decide +kernel
theorem dX11_isInside_13 : decode cX11_isInside 13 = .ok (.idiv, 1) := by decide +kernel
theorem dX11_isInside_14 : decode cX11_isInside 14 = .ok (.ishr, 1) := by decide +kernel
theorem dX11_isInside_15 : decode cX11_isInside 15 = .ok (.iconst 1, 1) := by decide +kernel
theorem dX11_isInside_16 : decode cX11_isInside 16 = .ok (.iand, 1) := by decide +kernel
theorem dX11_isInside_17 : decode cX11_isInside 17 = .ok (.iconst 1, 1) := by decide +kernel
theorem dX11_isInside_18 : decode cX11_isInside 18 = .ok (.if_icmp .ne 30, 3) := by decide +kernel
theorem dX11_isInside_21 : decode cX11_isInside 21 = .ok (.iload_n 2, 1) := by decide +kernel
theorem dX11_isInside_22 : decode cX11_isInside 22 = .ok (.aload_n 0, 1) := by decide +kernel
theorem dX11_isInside_23 : decode cX11_isInside 23 = .ok (.getfield 57, 3) := by decide +kernel
theorem dX11_isInside_26 : decode cX11_isInside 26 = .ok (.bipush 96, 2) := by decide +kernel
theorem dX11_isInside_28 : decode cX11_isInside 28 = .ok (.iconst 2, 1) := by decide +kernel
theorem dX11_isInside_29 : decode cX11_isInside 29 = .ok (.iload_n 1, 1) := by decide +kernel
theorem dX11_isInside_30 : decode cX11_isInside 30 = .ok (.imul, 1) := by decide +kernel
theorem dX11_isInside_31 : decode cX11_isInside 31 = .ok (.iadd, 1) := by decide +kernel
theorem dX11_isInside_32 : decode cX11_isInside 32 = .ok (.iconst 1, 1) := by decide +kernel
theorem dX11_isInside_33 : decode cX11_isInside 33 = .ok (.iadd, 1) := by decide +kernel
theorem dX11_isInside_34 : decode cX11_isInside 34 = .ok (.iaload, 1) := by decide +kernel
theorem dX11_isInside_35 : decode cX11_isInside 35 = .ok (.iconst 4, 1) := by decide +kernel
theorem dX11_isInside_36 : decode cX11_isInside 36 = .ok (.idiv, 1) := by decide +kernel
theorem dX11_isInside_37 : decode cX11_isInside 37 = .ok (.ishr, 1) := by decide +kernel
theorem dX11_isInside_38 : decode cX11_isInside 38 = .ok (.iconst 1, 1) := by decide +kernel
theorem dX11_isInside_39 : decode cX11_isInside 39 = .ok (.iand, 1) := by decide +kernel
theorem dX11_isInside_40 : decode cX11_isInside 40 = .ok (.iconst 1, 1) := by decide +kernel
theorem dX11_isInside_41 : decode cX11_isInside 41 = .ok (.if_icmp .ne 7, 3) := by decide +kernel
theorem dX11_isInside_44 : decode cX11_isInside 44 = .ok (.iconst 1, 1) := by decide +kernel
theorem dX11_isInside_45 : decode cX11_isInside 45 = .ok (.goto 4, 3) := by decide +kernel
theorem dX11_isInside_48 : decode cX11_isInside 48 = .ok (.iconst 0, 1) := by decide +kernel
theorem dX11_isInside_49 : decode cX11_isInside 49 = .ok (.ireturn, 1) := by decide +kernel
theorem dX11_within__0 : decode cX11_within_ 0 = .ok (.aload_n 0, 1) := by decide +kernel
theorem dX11_within__1 : decode cX11_within_ 1 = .ok (.iconst 0, 1) := by decide +kernel
theorem dX11_within__2 : decode cX11_within_ 2 = .ok (.putfield 88, 3) := by decide +kernel
theorem dX11_within__5 : decode cX11_within_ 5 = .ok (.iload_n 1, 1) := by decide +kernel
theorem dX11_within__6 : decode cX11_within_ 6 = .ok (.i2l, 1) := by decide +kernel
theorem dX11_within__7 : decode cX11_within_ 7 = .ok (.lconst 0, 1) := by decide +kernel
theorem dX11_within__8 : decode cX11_within_ 8 = .ok (.aload_n 0, 1) := by decide +kernel
theorem dX11_within__9 : decode cX11_within_ 9 = .ok (.invokevirtual 340, 3) := by decide +kernel
theorem dX11_within__12 : decode cX11_within_ 12 = .ok (.i2l, 1) := by decide +kernel
theorem dX11_within__13 : decode cX11_within_ 13 = .ok (.invokestatic 126, 3) := by decide +kernel
theorem dX11_within__16 : decode cX11_within_ 16 = .ok (.ifCond .ne 5, 3) := by decide +kernel
theorem dX11_within__19 : decode cX11_within_ 19 = .ok (.iconst (-1), 1) := by decide +kernel
theorem dX11_within__20 : decode cX11_within_ 20 = .ok (.ireturn, 1) := by decide +kernel
theorem dX11_within__21 : decode cX11_within_ 21 = .ok (.iconst 0, 1) := by decide +kernel
theorem dX11_within__22 : decode cX11_within_ 22 = .ok (.istore_n 2, 1) := by decide +kernel
theorem dX11_within__23 : decode cX11_within_ 23 = .ok (.iconst 0, 1) := by decide +kernel
theorem dX11_within__24 : decode cX11_within_ 24 = .ok (.istore_n 3, 1) := by decide +kernel
theorem dX11_within__25 : decode cX11_within_ 25 = .ok (.iload_n 3, 1) := by decide +kernel
theorem dX11_within__26 : decode cX11_within_ 26 = .ok (.aload_n 0, 1) := by decide +kernel
theorem dX11_within__27 : decode cX11_within_ 27 = .ok (.getfield 57, 3) := by decide +kernel
theorem dX11_within__30 : decode cX11_within_ 30 = .ok (.bipush 116, 2) := by decide +kernel
theorem dX11_within__32 : decode cX11_within_ 32 = .ok (.iaload, 1) := by decide +kernel
theorem dX11_within__33 : decode cX11_within_ 33 = .ok (.if_icmp .ge 28, 3) := by decide +kernel
theorem dX11_within__36 : decode cX11_within_ 36 = .ok (.iload_n 2, 1) := by decide +kernel
theorem dX11_within__37 : decode cX11_within_ 37 = .ok (.aload_n 0, 1) := by decide +kernel
theorem dX11_within__38 : decode cX11_within_ 38 = .ok (.iload_n 3, 1) := by decide +kernel
theorem dX11_within__39 : decode cX11_within_ 39 = .ok (.iload_n 1, 1) := by decide +kernel
theorem dX11_within__40 : decode cX11_within_ 40 = .ok (.invokevirtual 352, 3) := by decide +kernel
theorem dX11_within__43 : decode cX11_within_ 43 = .ok (.ifCond .eq 9, 3) := by decide +kernel
theorem dX11_within__46 : decode cX11_within_ 46 = .ok (.iconst 1, 1) := by decide +kernel
theorem dX11_within__47 : decode cX11_within_ 47 = .ok (.iload_n 3, 1) := by decide +kernel
theorem dX11_within__48 : decode cX11_within_ 48 = .ok (.ishl, 1) := by decide +kernel
theorem dX11_within__49 : decode cX11_within_ 49 = .ok (.goto 4, 3) := by decide +kernel
theorem dX11_within__52 : decode cX11_within_ 52 = .ok (.iconst 0, 1) := by decide +kernel
theorem dX11_within__53 : decode cX11_within_ 53 = .ok (.ior, 1) := by decide +kernel
theorem dX11_within__54 : decode cX11_within_ 54 = .ok (.istore_n 2, 1) := by decide +kernel
theorem dX11_within__55 : decode cX11_within_ 55 = .ok (.iinc 3 1, 3) := by decide +kernel
theorem dX11_within__58 : decode cX11_within_ 58 = .ok (.goto (-33), 3) := by decide +kernel
theorem dX11_within__61 : decode cX11_within_ 61 = .ok (.iconst 0, 1) := by decide +kernel
theorem dX11_within__62 : decode cX11_within_ 62 = .ok (.istore_n 3, 1) := by decide +kernel
theorem dX11_within__63 : decode cX11_within_ 63 = .ok (.iconst 0, 1) := by decide +kernel
theorem dX11_within__64 : decode cX11_within_ 64 = .ok (.istore 4, 2) := by decide +kernel
theorem dX11_within__66 : decode cX11_within_ 66 = .ok (.iload 4, 2) := by decide +kernel
theorem dX11_within__68 : decode cX11_within_ 68 = .ok (.iconst 1, 1) := by decide +kernel
theorem dX11_within__69 : decode cX11_within_ 69 = .ok (.aload_n 0, 1) := by decide +kernel
theorem dX11_within__70 : decode cX11_within_ 70 = .ok (.getfield 57, 3) := by decide +kernel
theorem dX11_within__73 : decode cX11_within_ 73 = .ok (.bipush 116, 2) := by decide +kernel
theorem dX11_within__75 : decode cX11_within_ 75 = .ok (.iaload, 1) := by decide +kernel
theorem dX11_within__76 : decode cX11_within_ 76 = .ok (.ishl, 1) := by decide +kernel
theorem dX11_within__77 : decode cX11_within_ 77 = .ok (.if_icmp .ge 64, 3) := by decide +kernel
theorem dX11_within__80 : decode cX11_within_ 80 = .ok (.iload 4, 2) := by decide +kernel
theorem dX11_within__82 : decode cX11_within_ 82 = .ok (.iload_n 2, 1) := by decide +kernel
theorem dX11_within__83 : decode cX11_within_ 83 = .ok (.iconst (-1), 1) := by decide +kernel
theorem dX11_within__84 : decode cX11_within_ 84 = .ok (.ixor, 1) := by decide +kernel
theorem dX11_within__85 : decode cX11_within_ 85 = .ok (.iand, 1) := by decide +kernel
theorem dX11_within__86 : decode cX11_within_ 86 = .ok (.ifCond .eq 6, 3) := by decide +kernel
theorem dX11_within__89 : decode cX11_within_ 89 = .ok (.goto 46, 3) := by decide +kernel
theorem dX11_within__92 : decode cX11_within_ 92 = .ok (.iconst 0, 1) := by decide +kernel
theorem dX11_within__93 : decode cX11_within_ 93 = .ok (.istore 5, 2) := by decide +kernel
theorem dX11_within__95 : decode cX11_within_ 95 = .ok (.iload 5, 2) := by decide +kernel
theorem dX11_within__97 : decode cX11_within_ 97 = .ok (.bipush 24, 2) := by decide +kernel
theorem dX11_within__99 : decode cX11_within_ 99 = .ok (.if_icmp .ge 17, 3) := by decide +kernel
theorem dX11_within__102 : decode cX11_within_ 102 = .ok (.aload_n 0, 1) := by decide +kernel
theorem dX11_within__103 : decode cX11_within_ 103 = .ok (.getfield 79, 3) := by decide +kernel
theorem dX11_within__106 : decode cX11_within_ 106 = .ok (.iload 5, 2) := by decide +kernel
theorem dX11_within__108 : decode cX11_within_ 108 = .ok (.iconst 0, 1) := by decide +kernel
theorem dX11_within__109 : decode cX11_within_ 109 = .ok (.iastore, 1) := by decide +kernel
theorem dX11_within__110 : decode cX11_within_ 110 = .ok (.iinc 5 1, 3) := by decide +kernel
theorem dX11_within__113 : decode cX11_within_ 113 = .ok (.goto (-18), 3) := by decide +kernel
theorem dX11_within__116 : decode cX11_within_ 116 = .ok (.aload_n 0, 1) := by decide +kernel
theorem dX11_within__117 : decode cX11_within_ 117 = .ok (.iload 4, 2) := by decide +kernel
theorem dX11_within__119 : decode cX11_within_ 119 = .ok (.invokevirtual 337, 3) := by decide +kernel
theorem dX11_within__122 : decode cX11_within_ 122 = .ok (.iload_n 3, 1) := by decide +kernel
theorem dX11_within__123 : decode cX11_within_ 123 = .ok (.aload_n 0, 1) := by decide +kernel
theorem dX11_within__124 : decode cX11_within_ 124 = .ok (.iload_n 1, 1) := by decide +kernel
theorem dX11_within__125 : decode cX11_within_ 125 = .ok (.invokevirtual 343, 3) := by decide +kernel
theorem dX11_within__128 : decode cX11_within_ 128 = .ok (.iadd, 1) := by decide +kernel
theorem dX11_within__129 : decode cX11_within_ 129 = .ok (.aload_n 0, 1) := by decide +kernel
theorem dX11_within__130 : decode cX11_within_ 130 = .ok (.invokevirtual 266, 3) := by decide +kernel
theorem dX11_within__133 : decode cX11_within_ 133 = .ok (.irem, 1) := by decide +kernel
theorem dX11_within__134 : decode cX11_within_ 134 = .ok (.istore_n 3, 1) := by decide +kernel
theorem dX11_within__135 : decode cX11_within_ 135 = .ok (.iinc 4 1, 3) := by decide +kernel
theorem dX11_within__138 : decode cX11_within_ 138 = .ok (.goto (-72), 3) := by decide +kernel
theorem dX11_within__141 : decode cX11_within_ 141 = .ok (.iload_n 3, 1) := by decide +kernel
theorem dX11_within__142 : decode cX11_within_ 142 = .ok (.ireturn, 1) := by decide +kernel
theorem dX11_edgeOf_0 : decode cX11_edgeOf 0 = .ok (.iconst 0, 1) := by decide +kernel
theorem dX11_edgeOf_1 : decode cX11_edgeOf 1 = .ok (.istore_n 2, 1) := by decide +kernel
theorem dX11_edgeOf_2 : decode cX11_edgeOf 2 = .ok (.iconst 0, 1) := by decide +kernel
theorem dX11_edgeOf_3 : decode cX11_edgeOf 3 = .ok (.istore_n 3, 1) := by decide +kernel
theorem dX11_edgeOf_4 : decode cX11_edgeOf 4 = .ok (.iload_n 3, 1) := by decide +kernel
theorem dX11_edgeOf_5 : decode cX11_edgeOf 5 = .ok (.aload_n 0, 1) := by decide +kernel
theorem dX11_edgeOf_6 : decode cX11_edgeOf 6 = .ok (.getfield 23, 3) := by decide +kernel
theorem dX11_edgeOf_9 : decode cX11_edgeOf 9 = .ok (.iconst 0, 1) := by decide +kernel
theorem dX11_edgeOf_10 : decode cX11_edgeOf 10 = .ok (.iaload, 1) := by decide +kernel
theorem dX11_edgeOf_11 : decode cX11_edgeOf 11 = .ok (.if_icmp .ge 134, 3) := by decide +kernel
theorem dX11_edgeOf_14 : decode cX11_edgeOf 14 = .ok (.iconst 0, 1) := by decide +kernel
theorem dX11_edgeOf_15 : decode cX11_edgeOf 15 = .ok (.istore 4, 2) := by decide +kernel
theorem dX11_edgeOf_17 : decode cX11_edgeOf 17 = .ok (.iload 4, 2) := by decide +kernel
theorem dX11_edgeOf_19 : decode cX11_edgeOf 19 = .ok (.aload_n 0, 1) := by decide +kernel
theorem dX11_edgeOf_20 : decode cX11_edgeOf 20 = .ok (.iload_n 3, 1) := by decide +kernel
theorem dX11_edgeOf_21 : decode cX11_edgeOf 21 = .ok (.invokevirtual 319, 3) := by decide +kernel
theorem dX11_edgeOf_24 : decode cX11_edgeOf 24 = .ok (.if_icmp .ge 115, 3) := by decide +kernel
theorem dX11_edgeOf_27 : decode cX11_edgeOf 27 = .ok (.iload_n 1, 1) := by decide +kernel
theorem dX11_edgeOf_28 : decode cX11_edgeOf 28 = .ok (.iload_n 3, 1) := by decide +kernel
theorem dX11_edgeOf_29 : decode cX11_edgeOf 29 = .ok (.ishr, 1) := by decide +kernel
theorem dX11_edgeOf_30 : decode cX11_edgeOf 30 = .ok (.iconst 1, 1) := by decide +kernel
theorem dX11_edgeOf_31 : decode cX11_edgeOf 31 = .ok (.iand, 1) := by decide +kernel
theorem dX11_edgeOf_32 : decode cX11_edgeOf 32 = .ok (.iconst 1, 1) := by decide +kernel
theorem dX11_edgeOf_33 : decode cX11_edgeOf 33 = .ok (.if_icmp .ne 106, 3) := by decide +kernel
theorem dX11_edgeOf_36 : decode cX11_edgeOf 36 = .ok (.aload_n 0, 1) := by decide +kernel
theorem dX11_edgeOf_37 : decode cX11_edgeOf 37 = .ok (.iconst 4, 1) := by decide +kernel
theorem dX11_edgeOf_38 : decode cX11_edgeOf 38 = .ok (.iload_n 3, 1) := by decide +kernel
theorem dX11_edgeOf_39 : decode cX11_edgeOf 39 = .ok (.imul, 1) := by decide +kernel
theorem dX11_edgeOf_40 : decode cX11_edgeOf 40 = .ok (.iload 4, 2) := by decide +kernel
theorem dX11_edgeOf_42 : decode cX11_edgeOf 42 = .ok (.iadd, 1) := by decide +kernel
theorem dX11_edgeOf_43 : decode cX11_edgeOf 43 = .ok (.invokevirtual 328, 3) := by decide +kernel
theorem dX11_edgeOf_46 : decode cX11_edgeOf 46 = .ok (.istore 5, 2) := by decide +kernel
theorem dX11_edgeOf_48 : decode cX11_edgeOf 48 = .ok (.iload 5, 2) := by decide +kernel
theorem dX11_edgeOf_50 : decode cX11_edgeOf 50 = .ok (.ifCond .ge 7, 3) := by decide +kernel
theorem dX11_edgeOf_53 : decode cX11_edgeOf 53 = .ok (.iconst (-1), 1) := by decide +kernel
theorem dX11_edgeOf_54 : decode cX11_edgeOf 54 = .ok (.goto 53, 3) := by decide +kernel
theorem dX11_edgeOf_57 : decode cX11_edgeOf 57 = .ok (.aload_n 0, 1) := by decide +kernel
theorem dX11_edgeOf_58 : decode cX11_edgeOf 58 = .ok (.getfield 57, 3) := by decide +kernel
theorem dX11_edgeOf_61 : decode cX11_edgeOf 61 = .ok (.bipush 96, 2) := by decide +kernel
theorem dX11_edgeOf_63 : decode cX11_edgeOf 63 = .ok (.iconst 2, 1) := by decide +kernel
theorem dX11_edgeOf_64 : decode cX11_edgeOf 64 = .ok (.iload 5, 2) := by decide +kernel
theorem dX11_edgeOf_66 : decode cX11_edgeOf 66 = .ok (.imul, 1) := by decide +kernel
theorem dX11_edgeOf_67 : decode cX11_edgeOf 67 = .ok (.iadd, 1) := by decide +kernel
theorem dX11_edgeOf_68 : decode cX11_edgeOf 68 = .ok (.iaload, 1) := by decide +kernel
theorem dX11_edgeOf_69 : decode cX11_edgeOf 69 = .ok (.iconst 4, 1) := by decide +kernel
theorem dX11_edgeOf_70 : decode cX11_edgeOf 70 = .ok (.iload_n 3, 1) := by decide +kernel
theorem dX11_edgeOf_71 : decode cX11_edgeOf 71 = .ok (.imul, 1) := by decide +kernel
theorem dX11_edgeOf_72 : decode cX11_edgeOf 72 = .ok (.iload 4, 2) := by decide +kernel
theorem dX11_edgeOf_74 : decode cX11_edgeOf 74 = .ok (.iadd, 1) := by decide +kernel
theorem dX11_edgeOf_75 : decode cX11_edgeOf 75 = .ok (.if_icmp .ne 20, 3) := by decide +kernel
theorem dX11_edgeOf_78 : decode cX11_edgeOf 78 = .ok (.aload_n 0, 1) := by decide +kernel
theorem dX11_edgeOf_79 : decode cX11_edgeOf 79 = .ok (.getfield 57, 3) := by decide +kernel
theorem dX11_edgeOf_82 : decode cX11_edgeOf 82 = .ok (.bipush 96, 2) := by decide +kernel
theorem dX11_edgeOf_84 : decode cX11_edgeOf 84 = .ok (.iconst 2, 1) := by decide +kernel
theorem dX11_edgeOf_85 : decode cX11_edgeOf 85 = .ok (.iload 5, 2) := by decide +kernel
theorem dX11_edgeOf_87 : decode cX11_edgeOf 87 = .ok (.imul, 1) := by decide +kernel
theorem dX11_edgeOf_88 : decode cX11_edgeOf 88 = .ok (.iadd, 1) := by decide +kernel
theorem dX11_edgeOf_89 : decode cX11_edgeOf 89 = .ok (.iconst 1, 1) := by decide +kernel
theorem dX11_edgeOf_90 : decode cX11_edgeOf 90 = .ok (.iadd, 1) := by decide +kernel
theorem dX11_edgeOf_91 : decode cX11_edgeOf 91 = .ok (.iaload, 1) := by decide +kernel
theorem dX11_edgeOf_92 : decode cX11_edgeOf 92 = .ok (.goto 15, 3) := by decide +kernel
theorem dX11_edgeOf_95 : decode cX11_edgeOf 95 = .ok (.aload_n 0, 1) := by decide +kernel
theorem dX11_edgeOf_96 : decode cX11_edgeOf 96 = .ok (.getfield 57, 3) := by decide +kernel
theorem dX11_edgeOf_99 : decode cX11_edgeOf 99 = .ok (.bipush 96, 2) := by decide +kernel
theorem dX11_edgeOf_101 : decode cX11_edgeOf 101 = .ok (.iconst 2, 1) := by decide +kernel
theorem dX11_edgeOf_102 : decode cX11_edgeOf 102 = .ok (.iload 5, 2) := by decide +kernel
theorem dX11_edgeOf_104 : decode cX11_edgeOf 104 = .ok (.imul, 1) := by decide +kernel
theorem dX11_edgeOf_105 : decode cX11_edgeOf 105 = .ok (.iadd, 1) := by decide +kernel
theorem dX11_edgeOf_106 : decode cX11_edgeOf 106 = .ok (.iaload, 1) := by decide +kernel
theorem dX11_edgeOf_107 : decode cX11_edgeOf 107 = .ok (.istore 6, 2) := by decide +kernel
theorem dX11_edgeOf_109 : decode cX11_edgeOf 109 = .ok (.iload_n 2, 1) := by decide +kernel
theorem dX11_edgeOf_110 : decode cX11_edgeOf 110 = .ok (.iload 5, 2) := by decide +kernel
theorem dX11_edgeOf_112 : decode cX11_edgeOf 112 = .ok (.ifCond .lt 14, 3) := by decide +kernel
theorem dX11_edgeOf_115 : decode cX11_edgeOf 115 = .ok (.iload_n 1, 1) := by decide +kernel
theorem dX11_edgeOf_116 : decode cX11_edgeOf 116 = .ok (.iload 6, 2) := by decide +kernel
theorem dX11_edgeOf_118 : decode cX11_edgeOf 118 = .ok (.iconst 4, 1) := by decide +kernel
theorem dX11_edgeOf_119 : decode cX11_edgeOf 119 = .ok (.idiv, 1) := by decide +kernel
theorem dX11_edgeOf_120 : decode cX11_edgeOf 120 = .ok (.ishr, 1) := by decide +kernel
theorem dX11_edgeOf_121 : decode cX11_edgeOf 121 = .ok (.iconst 1, 1) := by decide +kernel
theorem dX11_edgeOf_122 : decode cX11_edgeOf 122 = .ok (.iand, 1) := by decide +kernel
theorem dX11_edgeOf_123 : decode cX11_edgeOf 123 = .ok (.ifCond .ne 7, 3) := by decide +kernel
theorem dX11_edgeOf_126 : decode cX11_edgeOf 126 = .ok (.iconst 1, 1) := by decide +kernel
theorem dX11_edgeOf_127 : decode cX11_edgeOf 127 = .ok (.goto 4, 3) := by decide +kernel
theorem dX11_edgeOf_130 : decode cX11_edgeOf 130 = .ok (.iconst 0, 1) := by decide +kernel
theorem dX11_edgeOf_131 : decode cX11_edgeOf 131 = .ok (.iadd, 1) := by decide +kernel
theorem dX11_edgeOf_132 : decode cX11_edgeOf 132 = .ok (.istore_n 2, 1) := by decide +kernel
theorem dX11_edgeOf_133 : decode cX11_edgeOf 133 = .ok (.iinc 4 1, 3) := by decide +kernel
theorem dX11_edgeOf_136 : decode cX11_edgeOf 136 = .ok (.goto (-119), 3) := by decide +kernel
theorem dX11_edgeOf_139 : decode cX11_edgeOf 139 = .ok (.iinc 3 1, 3) := by decide +kernel
theorem dX11_edgeOf_142 : decode cX11_edgeOf 142 = .ok (.goto (-138), 3) := by decide +kernel
theorem dX11_edgeOf_145 : decode cX11_edgeOf 145 = .ok (.iload_n 2, 1) := by decide +kernel
theorem dX11_edgeOf_146 : decode cX11_edgeOf 146 = .ok (.ireturn, 1) := by decide +kernel
theorem dX11_takesOn_0 : decode cX11_takesOn 0 = .ok (.iload_n 3, 1) := by decide +kernel
theorem dX11_takesOn_1 : decode cX11_takesOn 1 = .ok (.aload_n 0, 1) := by decide +kernel
theorem dX11_takesOn_2 : decode cX11_takesOn 2 = .ok (.getfield 355, 3) := by decide +kernel
theorem dX11_takesOn_5 : decode cX11_takesOn 5 = .ok (.if_icmp .lt 4, 3) := by decide +kernel
theorem dX11_takesOn_8 : decode cX11_takesOn 8 = .ok (.return_, 1) := by decide +kernel
theorem dX11_takesOn_9 : decode cX11_takesOn 9 = .ok (.iload_n 1, 1) := by decide +kernel
theorem dX11_takesOn_10 : decode cX11_takesOn 10 = .ok (.aload_n 0, 1) := by decide +kernel
theorem dX11_takesOn_11 : decode cX11_takesOn 11 = .ok (.getfield 23, 3) := by decide +kernel
theorem dX11_takesOn_14 : decode cX11_takesOn 14 = .ok (.iconst 0, 1) := by decide +kernel
theorem dX11_takesOn_15 : decode cX11_takesOn 15 = .ok (.iaload, 1) := by decide +kernel
theorem dX11_takesOn_16 : decode cX11_takesOn 16 = .ok (.if_icmp .ne 38, 3) := by decide +kernel
theorem dX11_takesOn_19 : decode cX11_takesOn 19 = .ok (.aload_n 0, 1) := by decide +kernel
theorem dX11_takesOn_20 : decode cX11_takesOn 20 = .ok (.iload_n 3, 1) := by decide +kernel
theorem dX11_takesOn_21 : decode cX11_takesOn 21 = .ok (.putfield 355, 3) := by decide +kernel
theorem dX11_takesOn_24 : decode cX11_takesOn 24 = .ok (.iconst 0, 1) := by decide +kernel
theorem dX11_takesOn_25 : decode cX11_takesOn 25 = .ok (.istore 4, 2) := by decide +kernel
theorem dX11_takesOn_27 : decode cX11_takesOn 27 = .ok (.iload 4, 2) := by decide +kernel
theorem dX11_takesOn_29 : decode cX11_takesOn 29 = .ok (.iload_n 1, 1) := by decide +kernel
theorem dX11_takesOn_30 : decode cX11_takesOn 30 = .ok (.if_icmp .ge 23, 3) := by decide +kernel
theorem dX11_takesOn_33 : decode cX11_takesOn 33 = .ok (.aload_n 0, 1) := by decide +kernel
theorem dX11_takesOn_34 : decode cX11_takesOn 34 = .ok (.getfield 85, 3) := by decide +kernel
theorem dX11_takesOn_37 : decode cX11_takesOn 37 = .ok (.iload 4, 2) := by decide +kernel
theorem dX11_takesOn_39 : decode cX11_takesOn 39 = .ok (.aload_n 0, 1) := by decide +kernel
theorem dX11_takesOn_40 : decode cX11_takesOn 40 = .ok (.getfield 82, 3) := by decide +kernel
theorem dX11_takesOn_43 : decode cX11_takesOn 43 = .ok (.iload 4, 2) := by decide +kernel
theorem dX11_takesOn_45 : decode cX11_takesOn 45 = .ok (.iaload, 1) := by decide +kernel
theorem dX11_takesOn_46 : decode cX11_takesOn 46 = .ok (.iastore, 1) := by decide +kernel
theorem dX11_takesOn_47 : decode cX11_takesOn 47 = .ok (.iinc 4 1, 3) := by decide +kernel
theorem dX11_takesOn_50 : decode cX11_takesOn 50 = .ok (.goto (-23), 3) := by decide +kernel
theorem dX11_takesOn_53 : decode cX11_takesOn 53 = .ok (.return_, 1) := by decide +kernel
theorem dX11_takesOn_54 : decode cX11_takesOn 54 = .ok (.iconst 0, 1) := by decide +kernel
theorem dX11_takesOn_55 : decode cX11_takesOn 55 = .ok (.istore 4, 2) := by decide +kernel
theorem dX11_takesOn_57 : decode cX11_takesOn 57 = .ok (.iload 4, 2) := by decide +kernel
theorem dX11_takesOn_59 : decode cX11_takesOn 59 = .ok (.aload_n 0, 1) := by decide +kernel
theorem dX11_takesOn_60 : decode cX11_takesOn 60 = .ok (.getfield 23, 3) := by decide +kernel
theorem dX11_takesOn_63 : decode cX11_takesOn 63 = .ok (.iconst 0, 1) := by decide +kernel
theorem dX11_takesOn_64 : decode cX11_takesOn 64 = .ok (.iaload, 1) := by decide +kernel
theorem dX11_takesOn_65 : decode cX11_takesOn 65 = .ok (.if_icmp .ge 67, 3) := by decide +kernel
theorem dX11_takesOn_68 : decode cX11_takesOn 68 = .ok (.iload_n 2, 1) := by decide +kernel
theorem dX11_takesOn_69 : decode cX11_takesOn 69 = .ok (.iload 4, 2) := by decide +kernel
theorem dX11_takesOn_71 : decode cX11_takesOn 71 = .ok (.ishr, 1) := by decide +kernel
theorem dX11_takesOn_72 : decode cX11_takesOn 72 = .ok (.iconst 1, 1) := by decide +kernel
theorem dX11_takesOn_73 : decode cX11_takesOn 73 = .ok (.iand, 1) := by decide +kernel
theorem dX11_takesOn_74 : decode cX11_takesOn 74 = .ok (.iconst 1, 1) := by decide +kernel
theorem dX11_takesOn_75 : decode cX11_takesOn 75 = .ok (.if_icmp .ne 6, 3) := by decide +kernel
theorem dX11_takesOn_78 : decode cX11_takesOn 78 = .ok (.goto 48, 3) := by decide +kernel
theorem dX11_takesOn_81 : decode cX11_takesOn 81 = .ok (.aload_n 0, 1) := by decide +kernel
theorem dX11_takesOn_82 : decode cX11_takesOn 82 = .ok (.getfield 82, 3) := by decide +kernel
theorem dX11_takesOn_85 : decode cX11_takesOn 85 = .ok (.iload_n 1, 1) := by decide +kernel
theorem dX11_takesOn_86 : decode cX11_takesOn 86 = .ok (.iload 4, 2) := by decide +kernel
theorem dX11_takesOn_88 : decode cX11_takesOn 88 = .ok (.iastore, 1) := by decide +kernel
theorem dX11_takesOn_89 : decode cX11_takesOn 89 = .ok (.aload_n 0, 1) := by decide +kernel
theorem dX11_takesOn_90 : decode cX11_takesOn 90 = .ok (.iload_n 2, 1) := by decide +kernel
theorem dX11_takesOn_91 : decode cX11_takesOn 91 = .ok (.iconst 1, 1) := by decide +kernel
theorem dX11_takesOn_92 : decode cX11_takesOn 92 = .ok (.iload 4, 2) := by decide +kernel
theorem dX11_takesOn_94 : decode cX11_takesOn 94 = .ok (.ishl, 1) := by decide +kernel
theorem dX11_takesOn_95 : decode cX11_takesOn 95 = .ok (.ior, 1) := by decide +kernel
theorem dX11_takesOn_96 : decode cX11_takesOn 96 = .ok (.invokevirtual 358, 3) := by decide +kernel
theorem dX11_takesOn_99 : decode cX11_takesOn 99 = .ok (.istore 5, 2) := by decide +kernel
theorem dX11_takesOn_101 : decode cX11_takesOn 101 = .ok (.aload_n 0, 1) := by decide +kernel
theorem dX11_takesOn_102 : decode cX11_takesOn 102 = .ok (.iload_n 1, 1) := by decide +kernel
theorem dX11_takesOn_103 : decode cX11_takesOn 103 = .ok (.iconst 1, 1) := by decide +kernel
theorem dX11_takesOn_104 : decode cX11_takesOn 104 = .ok (.iadd, 1) := by decide +kernel
theorem dX11_takesOn_105 : decode cX11_takesOn 105 = .ok (.iload_n 2, 1) := by decide +kernel
theorem dX11_takesOn_106 : decode cX11_takesOn 106 = .ok (.iconst 1, 1) := by decide +kernel
theorem dX11_takesOn_107 : decode cX11_takesOn 107 = .ok (.iload 4, 2) := by decide +kernel
theorem dX11_takesOn_109 : decode cX11_takesOn 109 = .ok (.ishl, 1) := by decide +kernel
theorem dX11_takesOn_110 : decode cX11_takesOn 110 = .ok (.ior, 1) := by decide +kernel
theorem dX11_takesOn_111 : decode cX11_takesOn 111 = .ok (.iload 5, 2) := by decide +kernel
theorem dX11_takesOn_113 : decode cX11_takesOn 113 = .ok (.iload_n 3, 1) := by decide +kernel
theorem dX11_takesOn_114 : decode cX11_takesOn 114 = .ok (.if_icmp .le 8, 3) := by decide +kernel
theorem dX11_takesOn_117 : decode cX11_takesOn 117 = .ok (.iload 5, 2) := by decide +kernel
theorem dX11_takesOn_119 : decode cX11_takesOn 119 = .ok (.goto 4, 3) := by decide +kernel
theorem dX11_takesOn_122 : decode cX11_takesOn 122 = .ok (.iload_n 3, 1) := by decide +kernel
theorem dX11_takesOn_123 : decode cX11_takesOn 123 = .ok (.invokevirtual 361, 3) := by decide +kernel
theorem dX11_takesOn_126 : decode cX11_takesOn 126 = .ok (.iinc 4 1, 3) := by decide +kernel
theorem dX11_takesOn_129 : decode cX11_takesOn 129 = .ok (.goto (-72), 3) := by decide +kernel
theorem dX11_takesOn_132 : decode cX11_takesOn 132 = .ok (.return_, 1) := by decide +kernel
theorem dX11_width_0 : decode cX11_width 0 = .ok (.aload_n 0, 1) := by decide +kernel
theorem dX11_width_1 : decode cX11_width 1 = .ok (.iconst 0, 1) := by decide +kernel
theorem dX11_width_2 : decode cX11_width 2 = .ok (.putfield 88, 3) := by decide +kernel
theorem dX11_width_5 : decode cX11_width 5 = .ok (.iload_n 1, 1) := by decide +kernel
theorem dX11_width_6 : decode cX11_width 6 = .ok (.i2l, 1) := by decide +kernel
theorem dX11_width_7 : decode cX11_width 7 = .ok (.lconst 0, 1) := by decide +kernel
theorem dX11_width_8 : decode cX11_width 8 = .ok (.aload_n 0, 1) := by decide +kernel
theorem dX11_width_9 : decode cX11_width 9 = .ok (.getfield 23, 3) := by decide +kernel
theorem dX11_width_12 : decode cX11_width 12 = .ok (.iconst 0, 1) := by decide +kernel
theorem dX11_width_13 : decode cX11_width 13 = .ok (.iaload, 1) := by decide +kernel
theorem dX11_width_14 : decode cX11_width 14 = .ok (.i2l, 1) := by decide +kernel
theorem dX11_width_15 : decode cX11_width 15 = .ok (.invokestatic 126, 3) := by decide +kernel
theorem dX11_width_18 : decode cX11_width 18 = .ok (.ifCond .ne 5, 3) := by decide +kernel
theorem dX11_width_21 : decode cX11_width 21 = .ok (.iconst (-1), 1) := by decide +kernel
theorem dX11_width_22 : decode cX11_width 22 = .ok (.ireturn, 1) := by decide +kernel
theorem dX11_width_23 : decode cX11_width 23 = .ok (.aload_n 0, 1) := by decide +kernel
theorem dX11_width_24 : decode cX11_width 24 = .ok (.bipush 100, 2) := by decide +kernel
theorem dX11_width_26 : decode cX11_width 26 = .ok (.putfield 355, 3) := by decide +kernel
theorem dX11_width_29 : decode cX11_width 29 = .ok (.aload_n 0, 1) := by decide +kernel
theorem dX11_width_30 : decode cX11_width 30 = .ok (.iconst 0, 1) := by decide +kernel
theorem dX11_width_31 : decode cX11_width 31 = .ok (.iconst 0, 1) := by decide +kernel
theorem dX11_width_32 : decode cX11_width 32 = .ok (.iconst 0, 1) := by decide +kernel
theorem dX11_width_33 : decode cX11_width 33 = .ok (.invokevirtual 361, 3) := by decide +kernel
theorem dX11_width_36 : decode cX11_width 36 = .ok (.iload_n 1, 1) := by decide +kernel
theorem dX11_width_37 : decode cX11_width 37 = .ok (.ifCond .ne 10, 3) := by decide +kernel
theorem dX11_width_40 : decode cX11_width 40 = .ok (.aload_n 0, 1) := by decide +kernel
theorem dX11_width_41 : decode cX11_width 41 = .ok (.getfield 355, 3) := by decide +kernel
theorem dX11_width_44 : decode cX11_width 44 = .ok (.goto 11, 3) := by decide +kernel
theorem dX11_width_47 : decode cX11_width 47 = .ok (.aload_n 0, 1) := by decide +kernel
theorem dX11_width_48 : decode cX11_width 48 = .ok (.getfield 85, 3) := by decide +kernel
theorem dX11_width_51 : decode cX11_width 51 = .ok (.iload_n 1, 1) := by decide +kernel
theorem dX11_width_52 : decode cX11_width 52 = .ok (.iconst 1, 1) := by decide +kernel
theorem dX11_width_53 : decode cX11_width 53 = .ok (.isub, 1) := by decide +kernel
theorem dX11_width_54 : decode cX11_width 54 = .ok (.iaload, 1) := by decide +kernel
theorem dX11_width_55 : decode cX11_width 55 = .ok (.ireturn, 1) := by decide +kernel
theorem dX11_keeps_0 : decode cX11_keeps 0 = .ok (.aload_n 0, 1) := by decide +kernel
theorem dX11_keeps_1 : decode cX11_keeps 1 = .ok (.getfield 254, 3) := by decide +kernel
theorem dX11_keeps_4 : decode cX11_keeps 4 = .ok (.bipush 12, 2) := by decide +kernel
theorem dX11_keeps_6 : decode cX11_keeps 6 = .ok (.if_icmp .ne 43, 3) := by decide +kernel
theorem dX11_keeps_9 : decode cX11_keeps 9 = .ok (.iconst 0, 1) := by decide +kernel
theorem dX11_keeps_10 : decode cX11_keeps 10 = .ok (.istore_n 1, 1) := by decide +kernel
theorem dX11_keeps_11 : decode cX11_keeps 11 = .ok (.iload_n 1, 1) := by decide +kernel
theorem dX11_keeps_12 : decode cX11_keeps 12 = .ok (.sipush 1287, 3) := by decide +kernel
theorem dX11_keeps_15 : decode cX11_keeps 15 = .ok (.if_icmp .ge 24, 3) := by decide +kernel
theorem dX11_keeps_18 : decode cX11_keeps 18 = .ok (.aload_n 0, 1) := by decide +kernel
theorem dX11_keeps_19 : decode cX11_keeps 19 = .ok (.getfield 60, 3) := by decide +kernel
theorem dX11_keeps_22 : decode cX11_keeps 22 = .ok (.iload_n 1, 1) := by decide +kernel
theorem dX11_keeps_23 : decode cX11_keeps 23 = .ok (.aload_n 0, 1) := by decide +kernel
theorem dX11_keeps_24 : decode cX11_keeps 24 = .ok (.getfield 60, 3) := by decide +kernel
theorem dX11_keeps_27 : decode cX11_keeps 27 = .ok (.iload_n 1, 1) := by decide +kernel
theorem dX11_keeps_28 : decode cX11_keeps 28 = .ok (.bipush 117, 2) := by decide +kernel
theorem dX11_keeps_30 : decode cX11_keeps 30 = .ok (.iadd, 1) := by decide +kernel
theorem dX11_keeps_31 : decode cX11_keeps 31 = .ok (.iaload, 1) := by decide +kernel
theorem dX11_keeps_32 : decode cX11_keeps 32 = .ok (.iastore, 1) := by decide +kernel
theorem dX11_keeps_33 : decode cX11_keeps 33 = .ok (.iinc 1 1, 3) := by decide +kernel
theorem dX11_keeps_36 : decode cX11_keeps 36 = .ok (.goto (-25), 3) := by decide +kernel
theorem dX11_keeps_39 : decode cX11_keeps 39 = .ok (.aload_n 0, 1) := by decide +kernel
theorem dX11_keeps_40 : decode cX11_keeps 40 = .ok (.dup, 1) := by decide +kernel
theorem dX11_keeps_41 : decode cX11_keeps 41 = .ok (.getfield 254, 3) := by decide +kernel
theorem dX11_keeps_44 : decode cX11_keeps 44 = .ok (.iconst 1, 1) := by decide +kernel
theorem dX11_keeps_45 : decode cX11_keeps 45 = .ok (.isub, 1) := by decide +kernel
theorem dX11_keeps_46 : decode cX11_keeps 46 = .ok (.putfield 254, 3) := by decide +kernel
theorem dX11_keeps_49 : decode cX11_keeps 49 = .ok (.iconst 0, 1) := by decide +kernel
theorem dX11_keeps_50 : decode cX11_keeps 50 = .ok (.istore_n 1, 1) := by decide +kernel
theorem dX11_keeps_51 : decode cX11_keeps 51 = .ok (.iload_n 1, 1) := by decide +kernel
theorem dX11_keeps_52 : decode cX11_keeps 52 = .ok (.bipush 117, 2) := by decide +kernel
theorem dX11_keeps_54 : decode cX11_keeps 54 = .ok (.if_icmp .ge 29, 3) := by decide +kernel
theorem dX11_keeps_57 : decode cX11_keeps 57 = .ok (.aload_n 0, 1) := by decide +kernel
theorem dX11_keeps_58 : decode cX11_keeps 58 = .ok (.getfield 60, 3) := by decide +kernel
theorem dX11_keeps_61 : decode cX11_keeps 61 = .ok (.bipush 117, 2) := by decide +kernel
theorem dX11_keeps_63 : decode cX11_keeps 63 = .ok (.aload_n 0, 1) := by decide +kernel
theorem dX11_keeps_64 : decode cX11_keeps 64 = .ok (.getfield 254, 3) := by decide +kernel
theorem dX11_keeps_67 : decode cX11_keeps 67 = .ok (.imul, 1) := by decide +kernel
theorem dX11_keeps_68 : decode cX11_keeps 68 = .ok (.iload_n 1, 1) := by decide +kernel
theorem dX11_keeps_69 : decode cX11_keeps 69 = .ok (.iadd, 1) := by decide +kernel
theorem dX11_keeps_70 : decode cX11_keeps 70 = .ok (.aload_n 0, 1) := by decide +kernel
theorem dX11_keeps_71 : decode cX11_keeps 71 = .ok (.getfield 57, 3) := by decide +kernel
theorem dX11_keeps_74 : decode cX11_keeps 74 = .ok (.iload_n 1, 1) := by decide +kernel
theorem dX11_keeps_75 : decode cX11_keeps 75 = .ok (.iaload, 1) := by decide +kernel
theorem dX11_keeps_76 : decode cX11_keeps 76 = .ok (.iastore, 1) := by decide +kernel
theorem dX11_keeps_77 : decode cX11_keeps 77 = .ok (.iinc 1 1, 3) := by decide +kernel
theorem dX11_keeps_80 : decode cX11_keeps 80 = .ok (.goto (-29), 3) := by decide +kernel
theorem dX11_keeps_83 : decode cX11_keeps 83 = .ok (.aload_n 0, 1) := by decide +kernel
theorem dX11_keeps_84 : decode cX11_keeps 84 = .ok (.dup, 1) := by decide +kernel
theorem dX11_keeps_85 : decode cX11_keeps 85 = .ok (.getfield 254, 3) := by decide +kernel
theorem dX11_keeps_88 : decode cX11_keeps 88 = .ok (.iconst 1, 1) := by decide +kernel
theorem dX11_keeps_89 : decode cX11_keeps 89 = .ok (.iadd, 1) := by decide +kernel
theorem dX11_keeps_90 : decode cX11_keeps 90 = .ok (.putfield 254, 3) := by decide +kernel
theorem dX11_keeps_93 : decode cX11_keeps 93 = .ok (.return_, 1) := by decide +kernel
theorem dX11_change_0 : decode cX11_change 0 = .ok (.aload_n 0, 1) := by decide +kernel
theorem dX11_change_1 : decode cX11_change 1 = .ok (.iconst 0, 1) := by decide +kernel
theorem dX11_change_2 : decode cX11_change 2 = .ok (.putfield 88, 3) := by decide +kernel
theorem dX11_change_5 : decode cX11_change 5 = .ok (.aload_n 0, 1) := by decide +kernel
theorem dX11_change_6 : decode cX11_change 6 = .ok (.iload_n 1, 1) := by decide +kernel
theorem dX11_change_7 : decode cX11_change 7 = .ok (.invokevirtual 322, 3) := by decide +kernel
theorem dX11_change_10 : decode cX11_change 10 = .ok (.ifCond .eq 11, 3) := by decide +kernel
theorem dX11_change_13 : decode cX11_change 13 = .ok (.aload_n 0, 1) := by decide +kernel
theorem dX11_change_14 : decode cX11_change 14 = .ok (.iload_n 2, 1) := by decide +kernel
theorem dX11_change_15 : decode cX11_change 15 = .ok (.invokevirtual 297, 3) := by decide +kernel
theorem dX11_change_18 : decode cX11_change 18 = .ok (.ifCond .ne 5, 3) := by decide +kernel
theorem dX11_change_21 : decode cX11_change 21 = .ok (.iconst 0, 1) := by decide +kernel
theorem dX11_change_22 : decode cX11_change 22 = .ok (.ireturn, 1) := by decide +kernel
theorem dX11_change_23 : decode cX11_change 23 = .ok (.aload_n 0, 1) := by decide +kernel
theorem dX11_change_24 : decode cX11_change 24 = .ok (.invokevirtual 364, 3) := by decide +kernel
theorem dX11_change_27 : decode cX11_change 27 = .ok (.aload_n 0, 1) := by decide +kernel
theorem dX11_change_28 : decode cX11_change 28 = .ok (.getfield 57, 3) := by decide +kernel
theorem dX11_change_31 : decode cX11_change 31 = .ok (.bipush 96, 2) := by decide +kernel
theorem dX11_change_33 : decode cX11_change 33 = .ok (.iconst 2, 1) := by decide +kernel
theorem dX11_change_34 : decode cX11_change 34 = .ok (.iload_n 1, 1) := by decide +kernel
theorem dX11_change_35 : decode cX11_change 35 = .ok (.imul, 1) := by decide +kernel
theorem dX11_change_36 : decode cX11_change 36 = .ok (.iadd, 1) := by decide +kernel
theorem dX11_change_37 : decode cX11_change 37 = .ok (.iaload, 1) := by decide +kernel
theorem dX11_change_38 : decode cX11_change 38 = .ok (.istore_n 3, 1) := by decide +kernel
theorem dX11_change_39 : decode cX11_change 39 = .ok (.aload_n 0, 1) := by decide +kernel
theorem dX11_change_40 : decode cX11_change 40 = .ok (.getfield 57, 3) := by decide +kernel
theorem dX11_change_43 : decode cX11_change 43 = .ok (.bipush 96, 2) := by decide +kernel
theorem dX11_change_45 : decode cX11_change 45 = .ok (.iconst 2, 1) := by decide +kernel
theorem dX11_change_46 : decode cX11_change 46 = .ok (.iload_n 1, 1) := by decide +kernel
theorem dX11_change_47 : decode cX11_change 47 = .ok (.imul, 1) := by decide +kernel
theorem dX11_change_48 : decode cX11_change 48 = .ok (.iadd, 1) := by decide +kernel
theorem dX11_change_49 : decode cX11_change 49 = .ok (.iconst 1, 1) := by decide +kernel
theorem dX11_change_50 : decode cX11_change 50 = .ok (.iadd, 1) := by decide +kernel
theorem dX11_change_51 : decode cX11_change 51 = .ok (.iaload, 1) := by decide +kernel
theorem dX11_change_52 : decode cX11_change 52 = .ok (.istore 4, 2) := by decide +kernel
theorem dX11_change_54 : decode cX11_change 54 = .ok (.aload_n 0, 1) := by decide +kernel
theorem dX11_change_55 : decode cX11_change 55 = .ok (.aload_n 0, 1) := by decide +kernel
theorem dX11_change_56 : decode cX11_change 56 = .ok (.iload_n 2, 1) := by decide +kernel
theorem dX11_change_57 : decode cX11_change 57 = .ok (.invokevirtual 302, 3) := by decide +kernel
theorem dX11_change_60 : decode cX11_change 60 = .ok (.invokevirtual 282, 3) := by decide +kernel
theorem dX11_change_63 : decode cX11_change 63 = .ok (.istore 5, 2) := by decide +kernel
theorem dX11_change_65 : decode cX11_change 65 = .ok (.aload_n 0, 1) := by decide +kernel
theorem dX11_change_66 : decode cX11_change 66 = .ok (.getfield 42, 3) := by decide +kernel
theorem dX11_change_69 : decode cX11_change 69 = .ok (.iconst 4, 1) := by decide +kernel
theorem dX11_change_70 : decode cX11_change 70 = .ok (.iload_n 2, 1) := by decide +kernel
theorem dX11_change_71 : decode cX11_change 71 = .ok (.imul, 1) := by decide +kernel
theorem dX11_change_72 : decode cX11_change 72 = .ok (.iaload, 1) := by decide +kernel
theorem dX11_change_73 : decode cX11_change 73 = .ok (.istore 6, 2) := by decide +kernel
theorem dX11_change_75 : decode cX11_change 75 = .ok (.aload_n 0, 1) := by decide +kernel
theorem dX11_change_76 : decode cX11_change 76 = .ok (.getfield 42, 3) := by decide +kernel
theorem dX11_change_79 : decode cX11_change 79 = .ok (.iconst 4, 1) := by decide +kernel
theorem dX11_change_80 : decode cX11_change 80 = .ok (.iload_n 2, 1) := by decide +kernel
theorem dX11_change_81 : decode cX11_change 81 = .ok (.imul, 1) := by decide +kernel
theorem dX11_change_82 : decode cX11_change 82 = .ok (.iconst 2, 1) := by decide +kernel
theorem dX11_change_83 : decode cX11_change 83 = .ok (.iadd, 1) := by decide +kernel
theorem dX11_change_84 : decode cX11_change 84 = .ok (.iaload, 1) := by decide +kernel
theorem dX11_change_85 : decode cX11_change 85 = .ok (.istore 7, 2) := by decide +kernel
theorem dX11_change_87 : decode cX11_change 87 = .ok (.aload_n 0, 1) := by decide +kernel
theorem dX11_change_88 : decode cX11_change 88 = .ok (.getfield 42, 3) := by decide +kernel
theorem dX11_change_91 : decode cX11_change 91 = .ok (.iconst 4, 1) := by decide +kernel
theorem dX11_change_92 : decode cX11_change 92 = .ok (.iload_n 2, 1) := by decide +kernel
theorem dX11_change_93 : decode cX11_change 93 = .ok (.imul, 1) := by decide +kernel
theorem dX11_change_94 : decode cX11_change 94 = .ok (.iconst 3, 1) := by decide +kernel
theorem dX11_change_95 : decode cX11_change 95 = .ok (.iadd, 1) := by decide +kernel
theorem dX11_change_96 : decode cX11_change 96 = .ok (.iaload, 1) := by decide +kernel
theorem dX11_change_97 : decode cX11_change 97 = .ok (.istore 8, 2) := by decide +kernel
theorem dX11_change_99 : decode cX11_change 99 = .ok (.aload_n 0, 1) := by decide +kernel
theorem dX11_change_100 : decode cX11_change 100 = .ok (.aload_n 0, 1) := by decide +kernel
theorem dX11_change_101 : decode cX11_change 101 = .ok (.getfield 57, 3) := by decide +kernel
theorem dX11_change_104 : decode cX11_change 104 = .ok (.bipush 16, 2) := by decide +kernel
theorem dX11_change_106 : decode cX11_change 106 = .ok (.iload_n 3, 1) := by decide +kernel
theorem dX11_change_107 : decode cX11_change 107 = .ok (.iconst 4, 1) := by decide +kernel
theorem dX11_change_108 : decode cX11_change 108 = .ok (.idiv, 1) := by decide +kernel
theorem dX11_change_109 : decode cX11_change 109 = .ok (.imul, 1) := by decide +kernel
theorem dX11_change_110 : decode cX11_change 110 = .ok (.aload_n 0, 1) := by decide +kernel
theorem dX11_change_111 : decode cX11_change 111 = .ok (.iload_n 3, 1) := by decide +kernel
theorem dX11_change_112 : decode cX11_change 112 = .ok (.iconst 4, 1) := by decide +kernel
theorem dX11_change_113 : decode cX11_change 113 = .ok (.idiv, 1) := by decide +kernel
theorem dX11_change_114 : decode cX11_change 114 = .ok (.invokevirtual 319, 3) := by decide +kernel
theorem dX11_change_117 : decode cX11_change 117 = .ok (.iload_n 3, 1) := by decide +kernel
theorem dX11_change_118 : decode cX11_change 118 = .ok (.iconst 4, 1) := by decide +kernel
theorem dX11_change_119 : decode cX11_change 119 = .ok (.irem, 1) := by decide +kernel
theorem dX11_change_120 : decode cX11_change 120 = .ok (.iload 6, 2) := by decide +kernel
theorem dX11_change_122 : decode cX11_change 122 = .ok (.aload_n 0, 1) := by decide +kernel
theorem dX11_change_123 : decode cX11_change 123 = .ok (.getfield 42, 3) := by decide +kernel
theorem dX11_change_126 : decode cX11_change 126 = .ok (.iconst 4, 1) := by decide +kernel
theorem dX11_change_127 : decode cX11_change 127 = .ok (.iload_n 2, 1) := by decide +kernel
theorem dX11_change_128 : decode cX11_change 128 = .ok (.imul, 1) := by decide +kernel
theorem dX11_change_129 : decode cX11_change 129 = .ok (.iconst 1, 1) := by decide +kernel
theorem dX11_change_130 : decode cX11_change 130 = .ok (.iadd, 1) := by decide +kernel
theorem dX11_change_131 : decode cX11_change 131 = .ok (.iaload, 1) := by decide +kernel
theorem dX11_change_132 : decode cX11_change 132 = .ok (.iload 7, 2) := by decide +kernel
theorem dX11_change_134 : decode cX11_change 134 = .ok (.iload 8, 2) := by decide +kernel
theorem dX11_change_136 : decode cX11_change 136 = .ok (.invokevirtual 305, 3) := by decide +kernel
theorem dX11_change_139 : decode cX11_change 139 = .ok (.aload_n 0, 1) := by decide +kernel
theorem dX11_change_140 : decode cX11_change 140 = .ok (.aload_n 0, 1) := by decide +kernel
theorem dX11_change_141 : decode cX11_change 141 = .ok (.getfield 57, 3) := by decide +kernel
theorem dX11_change_144 : decode cX11_change 144 = .ok (.bipush 16, 2) := by decide +kernel
theorem dX11_change_146 : decode cX11_change 146 = .ok (.iload 4, 2) := by decide +kernel
theorem dX11_change_148 : decode cX11_change 148 = .ok (.iconst 4, 1) := by decide +kernel
theorem dX11_change_149 : decode cX11_change 149 = .ok (.idiv, 1) := by decide +kernel
theorem dX11_change_150 : decode cX11_change 150 = .ok (.imul, 1) := by decide +kernel
theorem dX11_change_151 : decode cX11_change 151 = .ok (.aload_n 0, 1) := by decide +kernel
theorem dX11_change_152 : decode cX11_change 152 = .ok (.iload 4, 2) := by decide +kernel
theorem dX11_change_154 : decode cX11_change 154 = .ok (.iconst 4, 1) := by decide +kernel
theorem dX11_change_155 : decode cX11_change 155 = .ok (.idiv, 1) := by decide +kernel
theorem dX11_change_156 : decode cX11_change 156 = .ok (.invokevirtual 319, 3) := by decide +kernel
theorem dX11_change_159 : decode cX11_change 159 = .ok (.iload 4, 2) := by decide +kernel
theorem dX11_change_161 : decode cX11_change 161 = .ok (.iconst 4, 1) := by decide +kernel
theorem dX11_change_162 : decode cX11_change 162 = .ok (.irem, 1) := by decide +kernel
theorem dX11_change_163 : decode cX11_change 163 = .ok (.iload 8, 2) := by decide +kernel
theorem dX11_change_165 : decode cX11_change 165 = .ok (.iload 5, 2) := by decide +kernel
theorem dX11_change_167 : decode cX11_change 167 = .ok (.imul, 1) := by decide +kernel
theorem dX11_change_168 : decode cX11_change 168 = .ok (.aload_n 0, 1) := by decide +kernel
theorem dX11_change_169 : decode cX11_change 169 = .ok (.invokevirtual 266, 3) := by decide +kernel
theorem dX11_change_172 : decode cX11_change 172 = .ok (.irem, 1) := by decide +kernel
theorem dX11_change_173 : decode cX11_change 173 = .ok (.iload 7, 2) := by decide +kernel
theorem dX11_change_175 : decode cX11_change 175 = .ok (.ineg, 1) := by decide +kernel
theorem dX11_change_176 : decode cX11_change 176 = .ok (.iload 5, 2) := by decide +kernel
theorem dX11_change_178 : decode cX11_change 178 = .ok (.imul, 1) := by decide +kernel
theorem dX11_change_179 : decode cX11_change 179 = .ok (.i2l, 1) := by decide +kernel
theorem dX11_change_180 : decode cX11_change 180 = .ok (.aload_n 0, 1) := by decide +kernel
theorem dX11_change_181 : decode cX11_change 181 = .ok (.invokevirtual 266, 3) := by decide +kernel
theorem dX11_change_184 : decode cX11_change 184 = .ok (.invokestatic 211, 3) := by decide +kernel
theorem dX11_change_187 : decode cX11_change 187 = .ok (.aload_n 0, 1) := by decide +kernel
theorem dX11_change_188 : decode cX11_change 188 = .ok (.getfield 42, 3) := by decide +kernel
theorem dX11_change_191 : decode cX11_change 191 = .ok (.iconst 4, 1) := by decide +kernel
theorem dX11_change_192 : decode cX11_change 192 = .ok (.iload_n 2, 1) := by decide +kernel
theorem dX11_change_193 : decode cX11_change 193 = .ok (.imul, 1) := by decide +kernel
theorem dX11_change_194 : decode cX11_change 194 = .ok (.iconst 1, 1) := by decide +kernel
theorem dX11_change_195 : decode cX11_change 195 = .ok (.iadd, 1) := by decide +kernel
theorem dX11_change_196 : decode cX11_change 196 = .ok (.iaload, 1) := by decide +kernel
theorem dX11_change_197 : decode cX11_change 197 = .ok (.ineg, 1) := by decide +kernel
theorem dX11_change_198 : decode cX11_change 198 = .ok (.iload 5, 2) := by decide +kernel
theorem dX11_change_200 : decode cX11_change 200 = .ok (.imul, 1) := by decide +kernel
theorem dX11_change_201 : decode cX11_change 201 = .ok (.i2l, 1) := by decide +kernel
theorem dX11_change_202 : decode cX11_change 202 = .ok (.aload_n 0, 1) := by decide +kernel
theorem dX11_change_203 : decode cX11_change 203 = .ok (.invokevirtual 266, 3) := by decide +kernel
theorem dX11_change_206 : decode cX11_change 206 = .ok (.invokestatic 211, 3) := by decide +kernel
theorem dX11_change_209 : decode cX11_change 209 = .ok (.iload 6, 2) := by decide +kernel
theorem dX11_change_211 : decode cX11_change 211 = .ok (.iload 5, 2) := by decide +kernel
theorem dX11_change_213 : decode cX11_change 213 = .ok (.imul, 1) := by decide +kernel
theorem dX11_change_214 : decode cX11_change 214 = .ok (.aload_n 0, 1) := by decide +kernel
theorem dX11_change_215 : decode cX11_change 215 = .ok (.invokevirtual 266, 3) := by decide +kernel
theorem dX11_change_218 : decode cX11_change 218 = .ok (.irem, 1) := by decide +kernel
theorem dX11_change_219 : decode cX11_change 219 = .ok (.invokevirtual 305, 3) := by decide +kernel
theorem dX11_change_222 : decode cX11_change 222 = .ok (.iconst 1, 1) := by decide +kernel
theorem dX11_change_223 : decode cX11_change 223 = .ok (.ireturn, 1) := by decide +kernel
theorem dX11_plug_0 : decode cX11_plug 0 = .ok (.aload_n 0, 1) := by decide +kernel
theorem dX11_plug_1 : decode cX11_plug 1 = .ok (.iconst 0, 1) := by decide +kernel
theorem dX11_plug_2 : decode cX11_plug 2 = .ok (.putfield 88, 3) := by decide +kernel
theorem dX11_plug_5 : decode cX11_plug 5 = .ok (.aload_n 0, 1) := by decide +kernel
theorem dX11_plug_6 : decode cX11_plug 6 = .ok (.iload_n 1, 1) := by decide +kernel
theorem dX11_plug_7 : decode cX11_plug 7 = .ok (.invokevirtual 316, 3) := by decide +kernel
theorem dX11_plug_10 : decode cX11_plug 10 = .ok (.ifCond .eq 25, 3) := by decide +kernel
theorem dX11_plug_13 : decode cX11_plug 13 = .ok (.aload_n 0, 1) := by decide +kernel
theorem dX11_plug_14 : decode cX11_plug 14 = .ok (.iload_n 2, 1) := by decide +kernel
theorem dX11_plug_15 : decode cX11_plug 15 = .ok (.invokevirtual 260, 3) := by decide +kernel
theorem dX11_plug_18 : decode cX11_plug 18 = .ok (.ifCond .eq 17, 3) := by decide +kernel
theorem dX11_plug_21 : decode cX11_plug 21 = .ok (.aload_n 0, 1) := by decide +kernel
theorem dX11_plug_22 : decode cX11_plug 22 = .ok (.getfield 36, 3) := by decide +kernel
theorem dX11_plug_25 : decode cX11_plug 25 = .ok (.iload_n 2, 1) := by decide +kernel
theorem dX11_plug_26 : decode cX11_plug 26 = .ok (.iaload, 1) := by decide +kernel
theorem dX11_plug_27 : decode cX11_plug 27 = .ok (.aload_n 0, 1) := by decide +kernel
theorem dX11_plug_28 : decode cX11_plug 28 = .ok (.iload_n 1, 1) := by decide +kernel
theorem dX11_plug_29 : decode cX11_plug 29 = .ok (.invokevirtual 319, 3) := by decide +kernel
theorem dX11_plug_32 : decode cX11_plug 32 = .ok (.if_icmp .eq 5, 3) := by decide +kernel
theorem dX11_plug_35 : decode cX11_plug 35 = .ok (.iconst 0, 1) := by decide +kernel
theorem dX11_plug_36 : decode cX11_plug 36 = .ok (.ireturn, 1) := by decide +kernel
theorem dX11_plug_37 : decode cX11_plug 37 = .ok (.aload_n 0, 1) := by decide +kernel
theorem dX11_plug_38 : decode cX11_plug 38 = .ok (.invokevirtual 364, 3) := by decide +kernel
theorem dX11_plug_41 : decode cX11_plug 41 = .ok (.iconst 0, 1) := by decide +kernel
theorem dX11_plug_42 : decode cX11_plug 42 = .ok (.istore_n 3, 1) := by decide +kernel
theorem dX11_plug_43 : decode cX11_plug 43 = .ok (.iload_n 3, 1) := by decide +kernel
theorem dX11_plug_44 : decode cX11_plug 44 = .ok (.bipush 16, 2) := by decide +kernel
theorem dX11_plug_46 : decode cX11_plug 46 = .ok (.if_icmp .ge 31, 3) := by decide +kernel
theorem dX11_plug_49 : decode cX11_plug 49 = .ok (.aload_n 0, 1) := by decide +kernel
theorem dX11_plug_50 : decode cX11_plug 50 = .ok (.getfield 57, 3) := by decide +kernel
theorem dX11_plug_53 : decode cX11_plug 53 = .ok (.bipush 16, 2) := by decide +kernel
theorem dX11_plug_55 : decode cX11_plug 55 = .ok (.iload_n 1, 1) := by decide +kernel
theorem dX11_plug_56 : decode cX11_plug 56 = .ok (.imul, 1) := by decide +kernel
theorem dX11_plug_57 : decode cX11_plug 57 = .ok (.iload_n 3, 1) := by decide +kernel
theorem dX11_plug_58 : decode cX11_plug 58 = .ok (.iadd, 1) := by decide +kernel
theorem dX11_plug_59 : decode cX11_plug 59 = .ok (.aload_n 0, 1) := by decide +kernel
theorem dX11_plug_60 : decode cX11_plug 60 = .ok (.getfield 39, 3) := by decide +kernel
theorem dX11_plug_63 : decode cX11_plug 63 = .ok (.bipush 16, 2) := by decide +kernel
theorem dX11_plug_65 : decode cX11_plug 65 = .ok (.iload_n 2, 1) := by decide +kernel
theorem dX11_plug_66 : decode cX11_plug 66 = .ok (.imul, 1) := by decide +kernel
theorem dX11_plug_67 : decode cX11_plug 67 = .ok (.iload_n 3, 1) := by decide +kernel
theorem dX11_plug_68 : decode cX11_plug 68 = .ok (.iadd, 1) := by decide +kernel
theorem dX11_plug_69 : decode cX11_plug 69 = .ok (.iaload, 1) := by decide +kernel
theorem dX11_plug_70 : decode cX11_plug 70 = .ok (.iastore, 1) := by decide +kernel
theorem dX11_plug_71 : decode cX11_plug 71 = .ok (.iinc 3 1, 3) := by decide +kernel
theorem dX11_plug_74 : decode cX11_plug 74 = .ok (.goto (-31), 3) := by decide +kernel
theorem dX11_plug_77 : decode cX11_plug 77 = .ok (.iconst 1, 1) := by decide +kernel
theorem dX11_plug_78 : decode cX11_plug 78 = .ok (.ireturn, 1) := by decide +kernel
theorem dX11_scale_0 : decode cX11_scale 0 = .ok (.aload_n 0, 1) := by decide +kernel
theorem dX11_scale_1 : decode cX11_scale 1 = .ok (.iconst 0, 1) := by decide +kernel
theorem dX11_scale_2 : decode cX11_scale 2 = .ok (.putfield 88, 3) := by decide +kernel
theorem dX11_scale_5 : decode cX11_scale 5 = .ok (.aload_n 0, 1) := by decide +kernel
theorem dX11_scale_6 : decode cX11_scale 6 = .ok (.iload_n 1, 1) := by decide +kernel
theorem dX11_scale_7 : decode cX11_scale 7 = .ok (.invokevirtual 316, 3) := by decide +kernel
theorem dX11_scale_10 : decode cX11_scale 10 = .ok (.ifCond .eq 19, 3) := by decide +kernel
theorem dX11_scale_13 : decode cX11_scale 13 = .ok (.iload_n 2, 1) := by decide +kernel
theorem dX11_scale_14 : decode cX11_scale 14 = .ok (.i2l, 1) := by decide +kernel
theorem dX11_scale_15 : decode cX11_scale 15 = .ok (.lconst 1, 1) := by decide +kernel
theorem dX11_scale_16 : decode cX11_scale 16 = .ok (.aload_n 0, 1) := by decide +kernel
theorem dX11_scale_17 : decode cX11_scale 17 = .ok (.invokevirtual 266, 3) := by decide +kernel
theorem dX11_scale_20 : decode cX11_scale 20 = .ok (.iconst 1, 1) := by decide +kernel
theorem dX11_scale_21 : decode cX11_scale 21 = .ok (.isub, 1) := by decide +kernel
theorem dX11_scale_22 : decode cX11_scale 22 = .ok (.i2l, 1) := by decide +kernel
theorem dX11_scale_23 : decode cX11_scale 23 = .ok (.invokestatic 126, 3) := by decide +kernel
theorem dX11_scale_26 : decode cX11_scale 26 = .ok (.ifCond .ne 5, 3) := by decide +kernel
theorem dX11_scale_29 : decode cX11_scale 29 = .ok (.iconst 0, 1) := by decide +kernel
theorem dX11_scale_30 : decode cX11_scale 30 = .ok (.ireturn, 1) := by decide +kernel
theorem dX11_scale_31 : decode cX11_scale 31 = .ok (.aload_n 0, 1) := by decide +kernel
theorem dX11_scale_32 : decode cX11_scale 32 = .ok (.invokevirtual 364, 3) := by decide +kernel
theorem dX11_scale_35 : decode cX11_scale 35 = .ok (.iconst 0, 1) := by decide +kernel
theorem dX11_scale_36 : decode cX11_scale 36 = .ok (.istore_n 3, 1) := by decide +kernel
theorem dX11_scale_37 : decode cX11_scale 37 = .ok (.iload_n 3, 1) := by decide +kernel
theorem dX11_scale_38 : decode cX11_scale 38 = .ok (.bipush 16, 2) := by decide +kernel
theorem dX11_scale_40 : decode cX11_scale 40 = .ok (.if_icmp .ge 38, 3) := by decide +kernel
theorem dX11_scale_43 : decode cX11_scale 43 = .ok (.aload_n 0, 1) := by decide +kernel
theorem dX11_scale_44 : decode cX11_scale 44 = .ok (.getfield 57, 3) := by decide +kernel
theorem dX11_scale_47 : decode cX11_scale 47 = .ok (.bipush 16, 2) := by decide +kernel
theorem dX11_scale_49 : decode cX11_scale 49 = .ok (.iload_n 1, 1) := by decide +kernel
theorem dX11_scale_50 : decode cX11_scale 50 = .ok (.imul, 1) := by decide +kernel
theorem dX11_scale_51 : decode cX11_scale 51 = .ok (.iload_n 3, 1) := by decide +kernel
theorem dX11_scale_52 : decode cX11_scale 52 = .ok (.iadd, 1) := by decide +kernel
theorem dX11_scale_53 : decode cX11_scale 53 = .ok (.aload_n 0, 1) := by decide +kernel
theorem dX11_scale_54 : decode cX11_scale 54 = .ok (.getfield 57, 3) := by decide +kernel
theorem dX11_scale_57 : decode cX11_scale 57 = .ok (.bipush 16, 2) := by decide +kernel
theorem dX11_scale_59 : decode cX11_scale 59 = .ok (.iload_n 1, 1) := by decide +kernel
theorem dX11_scale_60 : decode cX11_scale 60 = .ok (.imul, 1) := by decide +kernel
theorem dX11_scale_61 : decode cX11_scale 61 = .ok (.iload_n 3, 1) := by decide +kernel
theorem dX11_scale_62 : decode cX11_scale 62 = .ok (.iadd, 1) := by decide +kernel
theorem dX11_scale_63 : decode cX11_scale 63 = .ok (.iaload, 1) := by decide +kernel
theorem dX11_scale_64 : decode cX11_scale 64 = .ok (.iload_n 2, 1) := by decide +kernel
theorem dX11_scale_65 : decode cX11_scale 65 = .ok (.imul, 1) := by decide +kernel
theorem dX11_scale_66 : decode cX11_scale 66 = .ok (.aload_n 0, 1) := by decide +kernel
theorem dX11_scale_67 : decode cX11_scale 67 = .ok (.invokevirtual 266, 3) := by decide +kernel
theorem dX11_scale_70 : decode cX11_scale 70 = .ok (.irem, 1) := by decide +kernel
theorem dX11_scale_71 : decode cX11_scale 71 = .ok (.iastore, 1) := by decide +kernel
theorem dX11_scale_72 : decode cX11_scale 72 = .ok (.iinc 3 1, 3) := by decide +kernel
theorem dX11_scale_75 : decode cX11_scale 75 = .ok (.goto (-38), 3) := by decide +kernel
theorem dX11_scale_78 : decode cX11_scale 78 = .ok (.iconst 1, 1) := by decide +kernel
theorem dX11_scale_79 : decode cX11_scale 79 = .ok (.ireturn, 1) := by decide +kernel
theorem dX11_swap_0 : decode cX11_swap 0 = .ok (.aload_n 0, 1) := by decide +kernel
theorem dX11_swap_1 : decode cX11_swap 1 = .ok (.iconst 0, 1) := by decide +kernel
theorem dX11_swap_2 : decode cX11_swap 2 = .ok (.putfield 88, 3) := by decide +kernel
theorem dX11_swap_5 : decode cX11_swap 5 = .ok (.aload_n 0, 1) := by decide +kernel
theorem dX11_swap_6 : decode cX11_swap 6 = .ok (.iload_n 1, 1) := by decide +kernel
theorem dX11_swap_7 : decode cX11_swap 7 = .ok (.invokevirtual 316, 3) := by decide +kernel
theorem dX11_swap_10 : decode cX11_swap 10 = .ok (.ifCond .eq 42, 3) := by decide +kernel
theorem dX11_swap_13 : decode cX11_swap 13 = .ok (.iload_n 2, 1) := by decide +kernel
theorem dX11_swap_14 : decode cX11_swap 14 = .ok (.i2l, 1) := by decide +kernel
theorem dX11_swap_15 : decode cX11_swap 15 = .ok (.lconst 0, 1) := by decide +kernel
theorem dX11_swap_16 : decode cX11_swap 16 = .ok (.aload_n 0, 1) := by decide +kernel
theorem dX11_swap_17 : decode cX11_swap 17 = .ok (.iload_n 1, 1) := by decide +kernel
theorem dX11_swap_18 : decode cX11_swap 18 = .ok (.invokevirtual 319, 3) := by decide +kernel
theorem dX11_swap_21 : decode cX11_swap 21 = .ok (.iconst 1, 1) := by decide +kernel
theorem dX11_swap_22 : decode cX11_swap 22 = .ok (.isub, 1) := by decide +kernel
theorem dX11_swap_23 : decode cX11_swap 23 = .ok (.i2l, 1) := by decide +kernel
theorem dX11_swap_24 : decode cX11_swap 24 = .ok (.invokestatic 126, 3) := by decide +kernel
theorem dX11_swap_27 : decode cX11_swap 27 = .ok (.ifCond .eq 25, 3) := by decide +kernel
theorem dX11_swap_30 : decode cX11_swap 30 = .ok (.iload_n 3, 1) := by decide +kernel
theorem dX11_swap_31 : decode cX11_swap 31 = .ok (.i2l, 1) := by decide +kernel
theorem dX11_swap_32 : decode cX11_swap 32 = .ok (.lconst 0, 1) := by decide +kernel
theorem dX11_swap_33 : decode cX11_swap 33 = .ok (.aload_n 0, 1) := by decide +kernel
theorem dX11_swap_34 : decode cX11_swap 34 = .ok (.iload_n 1, 1) := by decide +kernel
theorem dX11_swap_35 : decode cX11_swap 35 = .ok (.invokevirtual 319, 3) := by decide +kernel
theorem dX11_swap_38 : decode cX11_swap 38 = .ok (.iconst 1, 1) := by decide +kernel
theorem dX11_swap_39 : decode cX11_swap 39 = .ok (.isub, 1) := by decide +kernel
theorem dX11_swap_40 : decode cX11_swap 40 = .ok (.i2l, 1) := by decide +kernel
theorem dX11_swap_41 : decode cX11_swap 41 = .ok (.invokestatic 126, 3) := by decide +kernel
theorem dX11_swap_44 : decode cX11_swap 44 = .ok (.ifCond .eq 8, 3) := by decide +kernel
theorem dX11_swap_47 : decode cX11_swap 47 = .ok (.iload_n 2, 1) := by decide +kernel
theorem dX11_swap_48 : decode cX11_swap 48 = .ok (.iload_n 3, 1) := by decide +kernel
theorem dX11_swap_49 : decode cX11_swap 49 = .ok (.if_icmp .ne 5, 3) := by decide +kernel
theorem dX11_swap_52 : decode cX11_swap 52 = .ok (.iconst 0, 1) := by decide +kernel
theorem dX11_swap_53 : decode cX11_swap 53 = .ok (.ireturn, 1) := by decide +kernel
theorem dX11_swap_54 : decode cX11_swap 54 = .ok (.aload_n 0, 1) := by decide +kernel
theorem dX11_swap_55 : decode cX11_swap 55 = .ok (.invokevirtual 364, 3) := by decide +kernel
theorem dX11_swap_58 : decode cX11_swap 58 = .ok (.iconst 0, 1) := by decide +kernel
theorem dX11_swap_59 : decode cX11_swap 59 = .ok (.istore 4, 2) := by decide +kernel
theorem dX11_swap_61 : decode cX11_swap 61 = .ok (.iload 4, 2) := by decide +kernel
theorem dX11_swap_63 : decode cX11_swap 63 = .ok (.iconst 1, 1) := by decide +kernel
theorem dX11_swap_64 : decode cX11_swap 64 = .ok (.aload_n 0, 1) := by decide +kernel
theorem dX11_swap_65 : decode cX11_swap 65 = .ok (.iload_n 1, 1) := by decide +kernel
theorem dX11_swap_66 : decode cX11_swap 66 = .ok (.invokevirtual 319, 3) := by decide +kernel
theorem dX11_swap_69 : decode cX11_swap 69 = .ok (.ishl, 1) := by decide +kernel
theorem dX11_swap_70 : decode cX11_swap 70 = .ok (.if_icmp .ge 97, 3) := by decide +kernel
theorem dX11_swap_73 : decode cX11_swap 73 = .ok (.iload 4, 2) := by decide +kernel
theorem dX11_swap_75 : decode cX11_swap 75 = .ok (.iload_n 2, 1) := by decide +kernel
theorem dX11_swap_76 : decode cX11_swap 76 = .ok (.ishr, 1) := by decide +kernel
theorem dX11_swap_77 : decode cX11_swap 77 = .ok (.iconst 1, 1) := by decide +kernel
theorem dX11_swap_78 : decode cX11_swap 78 = .ok (.iand, 1) := by decide +kernel
theorem dX11_swap_79 : decode cX11_swap 79 = .ok (.ifCond .eq 82, 3) := by decide +kernel
theorem dX11_swap_82 : decode cX11_swap 82 = .ok (.iload 4, 2) := by decide +kernel
theorem dX11_swap_84 : decode cX11_swap 84 = .ok (.iload_n 3, 1) := by decide +kernel
theorem dX11_swap_85 : decode cX11_swap 85 = .ok (.ishr, 1) := by decide +kernel
theorem dX11_swap_86 : decode cX11_swap 86 = .ok (.iconst 1, 1) := by decide +kernel
theorem dX11_swap_87 : decode cX11_swap 87 = .ok (.iand, 1) := by decide +kernel
theorem dX11_swap_88 : decode cX11_swap 88 = .ok (.iconst 1, 1) := by decide +kernel
theorem dX11_swap_89 : decode cX11_swap 89 = .ok (.if_icmp .ne 6, 3) := by decide +kernel
theorem dX11_swap_92 : decode cX11_swap 92 = .ok (.goto 69, 3) := by decide +kernel
theorem dX11_swap_95 : decode cX11_swap 95 = .ok (.iload 4, 2) := by decide +kernel
theorem dX11_swap_97 : decode cX11_swap 97 = .ok (.iconst 1, 1) := by decide +kernel
theorem dX11_swap_98 : decode cX11_swap 98 = .ok (.iload_n 2, 1) := by decide +kernel
theorem dX11_swap_99 : decode cX11_swap 99 = .ok (.ishl, 1) := by decide +kernel
theorem dX11_swap_100 : decode cX11_swap 100 = .ok (.iconst (-1), 1) := by decide +kernel
theorem dX11_swap_101 : decode cX11_swap 101 = .ok (.ixor, 1) := by decide +kernel
theorem dX11_swap_102 : decode cX11_swap 102 = .ok (.iand, 1) := by decide +kernel
theorem dX11_swap_103 : decode cX11_swap 103 = .ok (.iconst 1, 1) := by decide +kernel
theorem dX11_swap_104 : decode cX11_swap 104 = .ok (.iload_n 3, 1) := by decide +kernel
theorem dX11_swap_105 : decode cX11_swap 105 = .ok (.ishl, 1) := by decide +kernel
theorem dX11_swap_106 : decode cX11_swap 106 = .ok (.ior, 1) := by decide +kernel
theorem dX11_swap_107 : decode cX11_swap 107 = .ok (.istore 5, 2) := by decide +kernel
theorem dX11_swap_109 : decode cX11_swap 109 = .ok (.aload_n 0, 1) := by decide +kernel
theorem dX11_swap_110 : decode cX11_swap 110 = .ok (.getfield 57, 3) := by decide +kernel
theorem dX11_swap_113 : decode cX11_swap 113 = .ok (.bipush 16, 2) := by decide +kernel
theorem dX11_swap_115 : decode cX11_swap 115 = .ok (.iload_n 1, 1) := by decide +kernel
theorem dX11_swap_116 : decode cX11_swap 116 = .ok (.imul, 1) := by decide +kernel
theorem dX11_swap_117 : decode cX11_swap 117 = .ok (.iload 4, 2) := by decide +kernel
theorem dX11_swap_119 : decode cX11_swap 119 = .ok (.iadd, 1) := by decide +kernel
theorem dX11_swap_120 : decode cX11_swap 120 = .ok (.iaload, 1) := by decide +kernel
theorem dX11_swap_121 : decode cX11_swap 121 = .ok (.istore 6, 2) := by decide +kernel
theorem dX11_swap_123 : decode cX11_swap 123 = .ok (.aload_n 0, 1) := by decide +kernel
theorem dX11_swap_124 : decode cX11_swap 124 = .ok (.getfield 57, 3) := by decide +kernel
theorem dX11_swap_127 : decode cX11_swap 127 = .ok (.bipush 16, 2) := by decide +kernel
theorem dX11_swap_129 : decode cX11_swap 129 = .ok (.iload_n 1, 1) := by decide +kernel
theorem dX11_swap_130 : decode cX11_swap 130 = .ok (.imul, 1) := by decide +kernel
theorem dX11_swap_131 : decode cX11_swap 131 = .ok (.iload 4, 2) := by decide +kernel
theorem dX11_swap_133 : decode cX11_swap 133 = .ok (.iadd, 1) := by decide +kernel
theorem dX11_swap_134 : decode cX11_swap 134 = .ok (.aload_n 0, 1) := by decide +kernel
theorem dX11_swap_135 : decode cX11_swap 135 = .ok (.getfield 57, 3) := by decide +kernel
theorem dX11_swap_138 : decode cX11_swap 138 = .ok (.bipush 16, 2) := by decide +kernel
theorem dX11_swap_140 : decode cX11_swap 140 = .ok (.iload_n 1, 1) := by decide +kernel
theorem dX11_swap_141 : decode cX11_swap 141 = .ok (.imul, 1) := by decide +kernel
theorem dX11_swap_142 : decode cX11_swap 142 = .ok (.iload 5, 2) := by decide +kernel
theorem dX11_swap_144 : decode cX11_swap 144 = .ok (.iadd, 1) := by decide +kernel
theorem dX11_swap_145 : decode cX11_swap 145 = .ok (.iaload, 1) := by decide +kernel
theorem dX11_swap_146 : decode cX11_swap 146 = .ok (.iastore, 1) := by decide +kernel
theorem dX11_swap_147 : decode cX11_swap 147 = .ok (.aload_n 0, 1) := by decide +kernel
theorem dX11_swap_148 : decode cX11_swap 148 = .ok (.getfield 57, 3) := by decide +kernel
theorem dX11_swap_151 : decode cX11_swap 151 = .ok (.bipush 16, 2) := by decide +kernel
theorem dX11_swap_153 : decode cX11_swap 153 = .ok (.iload_n 1, 1) := by decide +kernel
theorem dX11_swap_154 : decode cX11_swap 154 = .ok (.imul, 1) := by decide +kernel
theorem dX11_swap_155 : decode cX11_swap 155 = .ok (.iload 5, 2) := by decide +kernel
theorem dX11_swap_157 : decode cX11_swap 157 = .ok (.iadd, 1) := by decide +kernel
theorem dX11_swap_158 : decode cX11_swap 158 = .ok (.iload 6, 2) := by decide +kernel
theorem dX11_swap_160 : decode cX11_swap 160 = .ok (.iastore, 1) := by decide +kernel
theorem dX11_swap_161 : decode cX11_swap 161 = .ok (.iinc 4 1, 3) := by decide +kernel
theorem dX11_swap_164 : decode cX11_swap 164 = .ok (.goto (-103), 3) := by decide +kernel
theorem dX11_swap_167 : decode cX11_swap 167 = .ok (.iconst 1, 1) := by decide +kernel
theorem dX11_swap_168 : decode cX11_swap 168 = .ok (.ireturn, 1) := by decide +kernel
theorem dX11_isOpen_0 : decode cX11_isOpen 0 = .ok (.aload_n 0, 1) := by decide +kernel
theorem dX11_isOpen_1 : decode cX11_isOpen 1 = .ok (.iload_n 1, 1) := by decide +kernel
theorem dX11_isOpen_2 : decode cX11_isOpen 2 = .ok (.invokevirtual 316, 3) := by decide +kernel
theorem dX11_isOpen_5 : decode cX11_isOpen 5 = .ok (.ifCond .eq 36, 3) := by decide +kernel
theorem dX11_isOpen_8 : decode cX11_isOpen 8 = .ok (.iload_n 2, 1) := by decide +kernel
theorem dX11_isOpen_9 : decode cX11_isOpen 9 = .ok (.i2l, 1) := by decide +kernel
theorem dX11_isOpen_10 : decode cX11_isOpen 10 = .ok (.lconst 0, 1) := by decide +kernel
theorem dX11_isOpen_11 : decode cX11_isOpen 11 = .ok (.aload_n 0, 1) := by decide +kernel
theorem dX11_isOpen_12 : decode cX11_isOpen 12 = .ok (.iload_n 1, 1) := by decide +kernel
theorem dX11_isOpen_13 : decode cX11_isOpen 13 = .ok (.invokevirtual 319, 3) := by decide +kernel
theorem dX11_isOpen_16 : decode cX11_isOpen 16 = .ok (.iconst 1, 1) := by decide +kernel
theorem dX11_isOpen_17 : decode cX11_isOpen 17 = .ok (.isub, 1) := by decide +kernel
theorem dX11_isOpen_18 : decode cX11_isOpen 18 = .ok (.i2l, 1) := by decide +kernel
theorem dX11_isOpen_19 : decode cX11_isOpen 19 = .ok (.invokestatic 126, 3) := by decide +kernel
theorem dX11_isOpen_22 : decode cX11_isOpen 22 = .ok (.ifCond .eq 19, 3) := by decide +kernel
theorem dX11_isOpen_25 : decode cX11_isOpen 25 = .ok (.aload_n 0, 1) := by decide +kernel
theorem dX11_isOpen_26 : decode cX11_isOpen 26 = .ok (.iconst 4, 1) := by decide +kernel
theorem dX11_isOpen_27 : decode cX11_isOpen 27 = .ok (.iload_n 1, 1) := by decide +kernel
theorem dX11_isOpen_28 : decode cX11_isOpen 28 = .ok (.imul, 1) := by decide +kernel
theorem dX11_isOpen_29 : decode cX11_isOpen 29 = .ok (.iload_n 2, 1) := by decide +kernel
theorem dX11_isOpen_30 : decode cX11_isOpen 30 = .ok (.iadd, 1) := by decide +kernel
theorem dX11_isOpen_31 : decode cX11_isOpen 31 = .ok (.invokevirtual 328, 3) := by decide +kernel
theorem dX11_isOpen_34 : decode cX11_isOpen 34 = .ok (.ifCond .ge 7, 3) := by decide +kernel
theorem dX11_isOpen_37 : decode cX11_isOpen 37 = .ok (.iconst 1, 1) := by decide +kernel
theorem dX11_isOpen_38 : decode cX11_isOpen 38 = .ok (.goto 4, 3) := by decide +kernel
theorem dX11_isOpen_41 : decode cX11_isOpen 41 = .ok (.iconst 0, 1) := by decide +kernel
theorem dX11_isOpen_42 : decode cX11_isOpen 42 = .ok (.ireturn, 1) := by decide +kernel
theorem dX11_join_0 : decode cX11_join 0 = .ok (.aload_n 0, 1) := by decide +kernel
theorem dX11_join_1 : decode cX11_join 1 = .ok (.iconst 0, 1) := by decide +kernel
theorem dX11_join_2 : decode cX11_join 2 = .ok (.putfield 88, 3) := by decide +kernel
theorem dX11_join_5 : decode cX11_join 5 = .ok (.aload_n 0, 1) := by decide +kernel
theorem dX11_join_6 : decode cX11_join 6 = .ok (.iload_n 1, 1) := by decide +kernel
theorem dX11_join_7 : decode cX11_join 7 = .ok (.iload_n 2, 1) := by decide +kernel
theorem dX11_join_8 : decode cX11_join 8 = .ok (.invokevirtual 367, 3) := by decide +kernel
theorem dX11_join_11 : decode cX11_join 11 = .ok (.ifCond .eq 36, 3) := by decide +kernel
theorem dX11_join_14 : decode cX11_join 14 = .ok (.aload_n 0, 1) := by decide +kernel
theorem dX11_join_15 : decode cX11_join 15 = .ok (.iload_n 3, 1) := by decide +kernel
theorem dX11_join_16 : decode cX11_join 16 = .ok (.iload 4, 2) := by decide +kernel
theorem dX11_join_18 : decode cX11_join 18 = .ok (.invokevirtual 367, 3) := by decide +kernel
theorem dX11_join_21 : decode cX11_join 21 = .ok (.ifCond .eq 26, 3) := by decide +kernel
theorem dX11_join_24 : decode cX11_join 24 = .ok (.iload_n 1, 1) := by decide +kernel
theorem dX11_join_25 : decode cX11_join 25 = .ok (.iload_n 3, 1) := by decide +kernel
theorem dX11_join_26 : decode cX11_join 26 = .ok (.if_icmp .ne 9, 3) := by decide +kernel
theorem dX11_join_29 : decode cX11_join 29 = .ok (.iload_n 2, 1) := by decide +kernel
theorem dX11_join_30 : decode cX11_join 30 = .ok (.iload 4, 2) := by decide +kernel
theorem dX11_join_32 : decode cX11_join 32 = .ok (.if_icmp .eq 15, 3) := by decide +kernel
theorem dX11_join_35 : decode cX11_join 35 = .ok (.aload_n 0, 1) := by decide +kernel
theorem dX11_join_36 : decode cX11_join 36 = .ok (.getfield 57, 3) := by decide +kernel
theorem dX11_join_39 : decode cX11_join 39 = .ok (.bipush 116, 2) := by decide +kernel
theorem dX11_join_41 : decode cX11_join 41 = .ok (.iaload, 1) := by decide +kernel
theorem dX11_join_42 : decode cX11_join 42 = .ok (.bipush 10, 2) := by decide +kernel
theorem dX11_join_44 : decode cX11_join 44 = .ok (.if_icmp .ne 5, 3) := by decide +kernel
theorem dX11_join_47 : decode cX11_join 47 = .ok (.iconst (-1), 1) := by decide +kernel
theorem dX11_join_48 : decode cX11_join 48 = .ok (.ireturn, 1) := by decide +kernel
theorem dX11_join_49 : decode cX11_join 49 = .ok (.aload_n 0, 1) := by decide +kernel
theorem dX11_join_50 : decode cX11_join 50 = .ok (.invokevirtual 364, 3) := by decide +kernel
theorem dX11_join_53 : decode cX11_join 53 = .ok (.aload_n 0, 1) := by decide +kernel
theorem dX11_join_54 : decode cX11_join 54 = .ok (.getfield 57, 3) := by decide +kernel
theorem dX11_join_57 : decode cX11_join 57 = .ok (.bipush 96, 2) := by decide +kernel
theorem dX11_join_59 : decode cX11_join 59 = .ok (.iconst 2, 1) := by decide +kernel
theorem dX11_join_60 : decode cX11_join 60 = .ok (.aload_n 0, 1) := by decide +kernel
theorem dX11_join_61 : decode cX11_join 61 = .ok (.getfield 57, 3) := by decide +kernel
theorem dX11_join_64 : decode cX11_join 64 = .ok (.bipush 116, 2) := by decide +kernel
theorem dX11_join_66 : decode cX11_join 66 = .ok (.iaload, 1) := by decide +kernel
theorem dX11_join_67 : decode cX11_join 67 = .ok (.imul, 1) := by decide +kernel
theorem dX11_join_68 : decode cX11_join 68 = .ok (.iadd, 1) := by decide +kernel
theorem dX11_join_69 : decode cX11_join 69 = .ok (.iconst 4, 1) := by decide +kernel
theorem dX11_join_70 : decode cX11_join 70 = .ok (.iload_n 1, 1) := by decide +kernel
theorem dX11_join_71 : decode cX11_join 71 = .ok (.imul, 1) := by decide +kernel
theorem dX11_join_72 : decode cX11_join 72 = .ok (.iload_n 2, 1) := by decide +kernel
theorem dX11_join_73 : decode cX11_join 73 = .ok (.iadd, 1) := by decide +kernel
theorem dX11_join_74 : decode cX11_join 74 = .ok (.iastore, 1) := by decide +kernel
theorem dX11_join_75 : decode cX11_join 75 = .ok (.aload_n 0, 1) := by decide +kernel
theorem dX11_join_76 : decode cX11_join 76 = .ok (.getfield 57, 3) := by decide +kernel
theorem dX11_join_79 : decode cX11_join 79 = .ok (.bipush 96, 2) := by decide +kernel
theorem dX11_join_81 : decode cX11_join 81 = .ok (.iconst 2, 1) := by decide +kernel
theorem dX11_join_82 : decode cX11_join 82 = .ok (.aload_n 0, 1) := by decide +kernel
theorem dX11_join_83 : decode cX11_join 83 = .ok (.getfield 57, 3) := by decide +kernel
theorem dX11_join_86 : decode cX11_join 86 = .ok (.bipush 116, 2) := by decide +kernel
theorem dX11_join_88 : decode cX11_join 88 = .ok (.iaload, 1) := by decide +kernel
theorem dX11_join_89 : decode cX11_join 89 = .ok (.imul, 1) := by decide +kernel
theorem dX11_join_90 : decode cX11_join 90 = .ok (.iadd, 1) := by decide +kernel
theorem dX11_join_91 : decode cX11_join 91 = .ok (.iconst 1, 1) := by decide +kernel
theorem dX11_join_92 : decode cX11_join 92 = .ok (.iadd, 1) := by decide +kernel
theorem dX11_join_93 : decode cX11_join 93 = .ok (.iconst 4, 1) := by decide +kernel
theorem dX11_join_94 : decode cX11_join 94 = .ok (.iload_n 3, 1) := by decide +kernel
theorem dX11_join_95 : decode cX11_join 95 = .ok (.imul, 1) := by decide +kernel
theorem dX11_join_96 : decode cX11_join 96 = .ok (.iload 4, 2) := by decide +kernel
theorem dX11_join_98 : decode cX11_join 98 = .ok (.iadd, 1) := by decide +kernel
theorem dX11_join_99 : decode cX11_join 99 = .ok (.iastore, 1) := by decide +kernel
theorem dX11_join_100 : decode cX11_join 100 = .ok (.aload_n 0, 1) := by decide +kernel
theorem dX11_join_101 : decode cX11_join 101 = .ok (.getfield 57, 3) := by decide +kernel
theorem dX11_join_104 : decode cX11_join 104 = .ok (.bipush 116, 2) := by decide +kernel
theorem dX11_join_106 : decode cX11_join 106 = .ok (.dup2, 1) := by decide +kernel
theorem dX11_join_107 : decode cX11_join 107 = .ok (.iaload, 1) := by decide +kernel
theorem dX11_join_108 : decode cX11_join 108 = .ok (.iconst 1, 1) := by decide +kernel
theorem dX11_join_109 : decode cX11_join 109 = .ok (.iadd, 1) := by decide +kernel
theorem dX11_join_110 : decode cX11_join 110 = .ok (.iastore, 1) := by decide +kernel
theorem dX11_join_111 : decode cX11_join 111 = .ok (.aload_n 0, 1) := by decide +kernel
theorem dX11_join_112 : decode cX11_join 112 = .ok (.getfield 57, 3) := by decide +kernel
theorem dX11_join_115 : decode cX11_join 115 = .ok (.bipush 116, 2) := by decide +kernel
theorem dX11_join_117 : decode cX11_join 117 = .ok (.iaload, 1) := by decide +kernel
theorem dX11_join_118 : decode cX11_join 118 = .ok (.iconst 1, 1) := by decide +kernel
theorem dX11_join_119 : decode cX11_join 119 = .ok (.isub, 1) := by decide +kernel
theorem dX11_join_120 : decode cX11_join 120 = .ok (.ireturn, 1) := by decide +kernel
theorem dX11_cut_0 : decode cX11_cut 0 = .ok (.aload_n 0, 1) := by decide +kernel
theorem dX11_cut_1 : decode cX11_cut 1 = .ok (.iconst 0, 1) := by decide +kernel
theorem dX11_cut_2 : decode cX11_cut 2 = .ok (.putfield 88, 3) := by decide +kernel
theorem dX11_cut_5 : decode cX11_cut 5 = .ok (.aload_n 0, 1) := by decide +kernel
theorem dX11_cut_6 : decode cX11_cut 6 = .ok (.iload_n 1, 1) := by decide +kernel
theorem dX11_cut_7 : decode cX11_cut 7 = .ok (.invokevirtual 322, 3) := by decide +kernel
theorem dX11_cut_10 : decode cX11_cut 10 = .ok (.ifCond .ne 5, 3) := by decide +kernel
theorem dX11_cut_13 : decode cX11_cut 13 = .ok (.iconst (-1), 1) := by decide +kernel
theorem dX11_cut_14 : decode cX11_cut 14 = .ok (.ireturn, 1) := by decide +kernel
theorem dX11_cut_15 : decode cX11_cut 15 = .ok (.aload_n 0, 1) := by decide +kernel
theorem dX11_cut_16 : decode cX11_cut 16 = .ok (.invokevirtual 364, 3) := by decide +kernel
theorem dX11_cut_19 : decode cX11_cut 19 = .ok (.iconst 2, 1) := by decide +kernel
theorem dX11_cut_20 : decode cX11_cut 20 = .ok (.iload_n 1, 1) := by decide +kernel
theorem dX11_cut_21 : decode cX11_cut 21 = .ok (.imul, 1) := by decide +kernel
theorem dX11_cut_22 : decode cX11_cut 22 = .ok (.istore_n 2, 1) := by decide +kernel
theorem dX11_cut_23 : decode cX11_cut 23 = .ok (.iload_n 2, 1) := by decide +kernel
theorem dX11_cut_24 : decode cX11_cut 24 = .ok (.iconst 2, 1) := by decide +kernel
theorem dX11_cut_25 : decode cX11_cut 25 = .ok (.iadd, 1) := by decide +kernel
theorem dX11_cut_26 : decode cX11_cut 26 = .ok (.iconst 2, 1) := by decide +kernel
theorem dX11_cut_27 : decode cX11_cut 27 = .ok (.aload_n 0, 1) := by decide +kernel
theorem dX11_cut_28 : decode cX11_cut 28 = .ok (.getfield 57, 3) := by decide +kernel
theorem dX11_cut_31 : decode cX11_cut 31 = .ok (.bipush 116, 2) := by decide +kernel
theorem dX11_cut_33 : decode cX11_cut 33 = .ok (.iaload, 1) := by decide +kernel
theorem dX11_cut_34 : decode cX11_cut 34 = .ok (.imul, 1) := by decide +kernel
theorem dX11_cut_35 : decode cX11_cut 35 = .ok (.if_icmp .ge 29, 3) := by decide +kernel
theorem dX11_cut_38 : decode cX11_cut 38 = .ok (.aload_n 0, 1) := by decide +kernel
theorem dX11_cut_39 : decode cX11_cut 39 = .ok (.getfield 57, 3) := by decide +kernel
theorem dX11_cut_42 : decode cX11_cut 42 = .ok (.bipush 96, 2) := by decide +kernel
theorem dX11_cut_44 : decode cX11_cut 44 = .ok (.iload_n 2, 1) := by decide +kernel
theorem dX11_cut_45 : decode cX11_cut 45 = .ok (.iadd, 1) := by decide +kernel
theorem dX11_cut_46 : decode cX11_cut 46 = .ok (.aload_n 0, 1) := by decide +kernel
theorem dX11_cut_47 : decode cX11_cut 47 = .ok (.getfield 57, 3) := by decide +kernel
theorem dX11_cut_50 : decode cX11_cut 50 = .ok (.bipush 96, 2) := by decide +kernel
theorem dX11_cut_52 : decode cX11_cut 52 = .ok (.iload_n 2, 1) := by decide +kernel
theorem dX11_cut_53 : decode cX11_cut 53 = .ok (.iadd, 1) := by decide +kernel
theorem dX11_cut_54 : decode cX11_cut 54 = .ok (.iconst 2, 1) := by decide +kernel
theorem dX11_cut_55 : decode cX11_cut 55 = .ok (.iadd, 1) := by decide +kernel
theorem dX11_cut_56 : decode cX11_cut 56 = .ok (.iaload, 1) := by decide +kernel
theorem dX11_cut_57 : decode cX11_cut 57 = .ok (.iastore, 1) := by decide +kernel
theorem dX11_cut_58 : decode cX11_cut 58 = .ok (.iinc 2 1, 3) := by decide +kernel
theorem dX11_cut_61 : decode cX11_cut 61 = .ok (.goto (-38), 3) := by decide +kernel
theorem dX11_cut_64 : decode cX11_cut 64 = .ok (.aload_n 0, 1) := by decide +kernel
theorem dX11_cut_65 : decode cX11_cut 65 = .ok (.getfield 57, 3) := by decide +kernel
theorem dX11_cut_68 : decode cX11_cut 68 = .ok (.bipush 116, 2) := by decide +kernel
theorem dX11_cut_70 : decode cX11_cut 70 = .ok (.dup2, 1) := by decide +kernel
theorem dX11_cut_71 : decode cX11_cut 71 = .ok (.iaload, 1) := by decide +kernel
theorem dX11_cut_72 : decode cX11_cut 72 = .ok (.iconst 1, 1) := by decide +kernel
theorem dX11_cut_73 : decode cX11_cut 73 = .ok (.isub, 1) := by decide +kernel
theorem dX11_cut_74 : decode cX11_cut 74 = .ok (.iastore, 1) := by decide +kernel
theorem dX11_cut_75 : decode cX11_cut 75 = .ok (.aload_n 0, 1) := by decide +kernel
theorem dX11_cut_76 : decode cX11_cut 76 = .ok (.getfield 57, 3) := by decide +kernel
theorem dX11_cut_79 : decode cX11_cut 79 = .ok (.bipush 116, 2) := by decide +kernel
theorem dX11_cut_81 : decode cX11_cut 81 = .ok (.iaload, 1) := by decide +kernel
theorem dX11_cut_82 : decode cX11_cut 82 = .ok (.ireturn, 1) := by decide +kernel
theorem dX11_undo_0 : decode cX11_undo 0 = .ok (.aload_n 0, 1) := by decide +kernel
theorem dX11_undo_1 : decode cX11_undo 1 = .ok (.iconst 0, 1) := by decide +kernel
theorem dX11_undo_2 : decode cX11_undo 2 = .ok (.putfield 88, 3) := by decide +kernel
theorem dX11_undo_5 : decode cX11_undo 5 = .ok (.aload_n 0, 1) := by decide +kernel
theorem dX11_undo_6 : decode cX11_undo 6 = .ok (.getfield 254, 3) := by decide +kernel
theorem dX11_undo_9 : decode cX11_undo 9 = .ok (.ifCond .ne 5, 3) := by decide +kernel
theorem dX11_undo_12 : decode cX11_undo 12 = .ok (.iconst (-1), 1) := by decide +kernel
theorem dX11_undo_13 : decode cX11_undo 13 = .ok (.ireturn, 1) := by decide +kernel
theorem dX11_undo_14 : decode cX11_undo 14 = .ok (.aload_n 0, 1) := by decide +kernel
theorem dX11_undo_15 : decode cX11_undo 15 = .ok (.dup, 1) := by decide +kernel
theorem dX11_undo_16 : decode cX11_undo 16 = .ok (.getfield 254, 3) := by decide +kernel
theorem dX11_undo_19 : decode cX11_undo 19 = .ok (.iconst 1, 1) := by decide +kernel
theorem dX11_undo_20 : decode cX11_undo 20 = .ok (.isub, 1) := by decide +kernel
theorem dX11_undo_21 : decode cX11_undo 21 = .ok (.putfield 254, 3) := by decide +kernel
theorem dX11_undo_24 : decode cX11_undo 24 = .ok (.iconst 0, 1) := by decide +kernel
theorem dX11_undo_25 : decode cX11_undo 25 = .ok (.istore_n 1, 1) := by decide +kernel
theorem dX11_undo_26 : decode cX11_undo 26 = .ok (.iload_n 1, 1) := by decide +kernel
theorem dX11_undo_27 : decode cX11_undo 27 = .ok (.bipush 117, 2) := by decide +kernel
theorem dX11_undo_29 : decode cX11_undo 29 = .ok (.if_icmp .ge 29, 3) := by decide +kernel
theorem dX11_undo_32 : decode cX11_undo 32 = .ok (.aload_n 0, 1) := by decide +kernel
theorem dX11_undo_33 : decode cX11_undo 33 = .ok (.getfield 57, 3) := by decide +kernel
theorem dX11_undo_36 : decode cX11_undo 36 = .ok (.iload_n 1, 1) := by decide +kernel
theorem dX11_undo_37 : decode cX11_undo 37 = .ok (.aload_n 0, 1) := by decide +kernel
theorem dX11_undo_38 : decode cX11_undo 38 = .ok (.getfield 60, 3) := by decide +kernel
theorem dX11_undo_41 : decode cX11_undo 41 = .ok (.bipush 117, 2) := by decide +kernel
theorem dX11_undo_43 : decode cX11_undo 43 = .ok (.aload_n 0, 1) := by decide +kernel
theorem dX11_undo_44 : decode cX11_undo 44 = .ok (.getfield 254, 3) := by decide +kernel
theorem dX11_undo_47 : decode cX11_undo 47 = .ok (.imul, 1) := by decide +kernel
theorem dX11_undo_48 : decode cX11_undo 48 = .ok (.iload_n 1, 1) := by decide +kernel
theorem dX11_undo_49 : decode cX11_undo 49 = .ok (.iadd, 1) := by decide +kernel
theorem dX11_undo_50 : decode cX11_undo 50 = .ok (.iaload, 1) := by decide +kernel
theorem dX11_undo_51 : decode cX11_undo 51 = .ok (.iastore, 1) := by decide +kernel
theorem dX11_undo_52 : decode cX11_undo 52 = .ok (.iinc 1 1, 3) := by decide +kernel
theorem dX11_undo_55 : decode cX11_undo 55 = .ok (.goto (-29), 3) := by decide +kernel
theorem dX11_undo_58 : decode cX11_undo 58 = .ok (.aload_n 0, 1) := by decide +kernel
theorem dX11_undo_59 : decode cX11_undo 59 = .ok (.getfield 254, 3) := by decide +kernel
theorem dX11_undo_62 : decode cX11_undo 62 = .ok (.ireturn, 1) := by decide +kernel
theorem dX11_keep_0 : decode cX11_keep 0 = .ok (.aload_n 0, 1) := by decide +kernel
theorem dX11_keep_1 : decode cX11_keep 1 = .ok (.iconst 0, 1) := by decide +kernel
theorem dX11_keep_2 : decode cX11_keep 2 = .ok (.putfield 88, 3) := by decide +kernel
theorem dX11_keep_5 : decode cX11_keep 5 = .ok (.iload_n 1, 1) := by decide +kernel
theorem dX11_keep_6 : decode cX11_keep 6 = .ok (.i2l, 1) := by decide +kernel
theorem dX11_keep_7 : decode cX11_keep 7 = .ok (.lconst 0, 1) := by decide +kernel
theorem dX11_keep_8 : decode cX11_keep 8 = .ok (.lconst 1, 1) := by decide +kernel
theorem dX11_keep_9 : decode cX11_keep 9 = .ok (.invokestatic 126, 3) := by decide +kernel
theorem dX11_keep_12 : decode cX11_keep 12 = .ok (.ifCond .eq 16, 3) := by decide +kernel
theorem dX11_keep_15 : decode cX11_keep 15 = .ok (.iload_n 2, 1) := by decide +kernel
theorem dX11_keep_16 : decode cX11_keep 16 = .ok (.ifCond .eq 14, 3) := by decide +kernel
theorem dX11_keep_19 : decode cX11_keep 19 = .ok (.aload_n 0, 1) := by decide +kernel
theorem dX11_keep_20 : decode cX11_keep 20 = .ok (.getfield 66, 3) := by decide +kernel
theorem dX11_keep_23 : decode cX11_keep 23 = .ok (.iload_n 1, 1) := by decide +kernel
theorem dX11_keep_24 : decode cX11_keep 24 = .ok (.baload, 1) := by decide +kernel
theorem dX11_keep_25 : decode cX11_keep 25 = .ok (.ifCond .ne 5, 3) := by decide +kernel
theorem dX11_keep_28 : decode cX11_keep 28 = .ok (.iconst 0, 1) := by decide +kernel
theorem dX11_keep_29 : decode cX11_keep 29 = .ok (.ireturn, 1) := by decide +kernel
theorem dX11_keep_30 : decode cX11_keep 30 = .ok (.iconst 0, 1) := by decide +kernel
theorem dX11_keep_31 : decode cX11_keep 31 = .ok (.istore_n 3, 1) := by decide +kernel
theorem dX11_keep_32 : decode cX11_keep 32 = .ok (.iload_n 3, 1) := by decide +kernel
theorem dX11_keep_33 : decode cX11_keep 33 = .ok (.bipush 117, 2) := by decide +kernel
theorem dX11_keep_35 : decode cX11_keep 35 = .ok (.if_icmp .ge 50, 3) := by decide +kernel
theorem dX11_keep_38 : decode cX11_keep 38 = .ok (.iload_n 2, 1) := by decide +kernel
theorem dX11_keep_39 : decode cX11_keep 39 = .ok (.ifCond .eq 23, 3) := by decide +kernel
theorem dX11_keep_42 : decode cX11_keep 42 = .ok (.aload_n 0, 1) := by decide +kernel
theorem dX11_keep_43 : decode cX11_keep 43 = .ok (.getfield 57, 3) := by decide +kernel
theorem dX11_keep_46 : decode cX11_keep 46 = .ok (.iload_n 3, 1) := by decide +kernel
theorem dX11_keep_47 : decode cX11_keep 47 = .ok (.aload_n 0, 1) := by decide +kernel
theorem dX11_keep_48 : decode cX11_keep 48 = .ok (.getfield 63, 3) := by decide +kernel
theorem dX11_keep_51 : decode cX11_keep 51 = .ok (.bipush 117, 2) := by decide +kernel
theorem dX11_keep_53 : decode cX11_keep 53 = .ok (.iload_n 1, 1) := by decide +kernel
theorem dX11_keep_54 : decode cX11_keep 54 = .ok (.imul, 1) := by decide +kernel
theorem dX11_keep_55 : decode cX11_keep 55 = .ok (.iload_n 3, 1) := by decide +kernel
theorem dX11_keep_56 : decode cX11_keep 56 = .ok (.iadd, 1) := by decide +kernel
theorem dX11_keep_57 : decode cX11_keep 57 = .ok (.iaload, 1) := by decide +kernel
theorem dX11_keep_58 : decode cX11_keep 58 = .ok (.iastore, 1) := by decide +kernel
theorem dX11_keep_59 : decode cX11_keep 59 = .ok (.goto 20, 3) := by decide +kernel
theorem dX11_keep_62 : decode cX11_keep 62 = .ok (.aload_n 0, 1) := by decide +kernel
theorem dX11_keep_63 : decode cX11_keep 63 = .ok (.getfield 63, 3) := by decide +kernel
theorem dX11_keep_66 : decode cX11_keep 66 = .ok (.bipush 117, 2) := by decide +kernel
theorem dX11_keep_68 : decode cX11_keep 68 = .ok (.iload_n 1, 1) := by decide +kernel
theorem dX11_keep_69 : decode cX11_keep 69 = .ok (.imul, 1) := by decide +kernel
theorem dX11_keep_70 : decode cX11_keep 70 = .ok (.iload_n 3, 1) := by decide +kernel
theorem dX11_keep_71 : decode cX11_keep 71 = .ok (.iadd, 1) := by decide +kernel
theorem dX11_keep_72 : decode cX11_keep 72 = .ok (.aload_n 0, 1) := by decide +kernel
theorem dX11_keep_73 : decode cX11_keep 73 = .ok (.getfield 57, 3) := by decide +kernel
theorem dX11_keep_76 : decode cX11_keep 76 = .ok (.iload_n 3, 1) := by decide +kernel
theorem dX11_keep_77 : decode cX11_keep 77 = .ok (.iaload, 1) := by decide +kernel
theorem dX11_keep_78 : decode cX11_keep 78 = .ok (.iastore, 1) := by decide +kernel
theorem dX11_keep_79 : decode cX11_keep 79 = .ok (.iinc 3 1, 3) := by decide +kernel
theorem dX11_keep_82 : decode cX11_keep 82 = .ok (.goto (-50), 3) := by decide +kernel
theorem dX11_keep_85 : decode cX11_keep 85 = .ok (.iload_n 2, 1) := by decide +kernel
theorem dX11_keep_86 : decode cX11_keep 86 = .ok (.ifCond .eq 11, 3) := by decide +kernel
theorem dX11_keep_89 : decode cX11_keep 89 = .ok (.aload_n 0, 1) := by decide +kernel
theorem dX11_keep_90 : decode cX11_keep 90 = .ok (.iconst 0, 1) := by decide +kernel
theorem dX11_keep_91 : decode cX11_keep 91 = .ok (.putfield 254, 3) := by decide +kernel
theorem dX11_keep_94 : decode cX11_keep 94 = .ok (.goto 10, 3) := by decide +kernel
theorem dX11_keep_97 : decode cX11_keep 97 = .ok (.aload_n 0, 1) := by decide +kernel
theorem dX11_keep_98 : decode cX11_keep 98 = .ok (.getfield 66, 3) := by decide +kernel
theorem dX11_keep_101 : decode cX11_keep 101 = .ok (.iload_n 1, 1) := by decide +kernel
theorem dX11_keep_102 : decode cX11_keep 102 = .ok (.iconst 1, 1) := by decide +kernel
theorem dX11_keep_103 : decode cX11_keep 103 = .ok (.bastore, 1) := by decide +kernel
theorem dX11_keep_104 : decode cX11_keep 104 = .ok (.iconst 1, 1) := by decide +kernel
theorem dX11_keep_105 : decode cX11_keep 105 = .ok (.ireturn, 1) := by decide +kernel
theorem dX11_count_0 : decode cX11_count 0 = .ok (.aload_n 0, 1) := by decide +kernel
theorem dX11_count_1 : decode cX11_count 1 = .ok (.iconst 0, 1) := by decide +kernel
theorem dX11_count_2 : decode cX11_count 2 = .ok (.putfield 88, 3) := by decide +kernel
theorem dX11_count_5 : decode cX11_count 5 = .ok (.iload_n 1, 1) := by decide +kernel
theorem dX11_count_6 : decode cX11_count 6 = .ok (.tableswitch 99 0 7 #[46, 51, 58, 65, 72, 80, 89, 94], 46) := by decide +kernel
theorem dX11_count_52 : decode cX11_count 52 = .ok (.aload_n 0, 1) := by decide +kernel
theorem dX11_count_53 : decode cX11_count 53 = .ok (.invokevirtual 266, 3) := by decide +kernel
theorem dX11_count_56 : decode cX11_count 56 = .ok (.ireturn, 1) := by decide +kernel
theorem dX11_count_57 : decode cX11_count 57 = .ok (.aload_n 0, 1) := by decide +kernel
theorem dX11_count_58 : decode cX11_count 58 = .ok (.getfield 17, 3) := by decide +kernel
theorem dX11_count_61 : decode cX11_count 61 = .ok (.iconst 0, 1) := by decide +kernel
theorem dX11_count_62 : decode cX11_count 62 = .ok (.iaload, 1) := by decide +kernel
theorem dX11_count_63 : decode cX11_count 63 = .ok (.ireturn, 1) := by decide +kernel
theorem dX11_count_64 : decode cX11_count 64 = .ok (.aload_n 0, 1) := by decide +kernel
theorem dX11_count_65 : decode cX11_count 65 = .ok (.getfield 20, 3) := by decide +kernel
theorem dX11_count_68 : decode cX11_count 68 = .ok (.iconst 0, 1) := by decide +kernel
theorem dX11_count_69 : decode cX11_count 69 = .ok (.iaload, 1) := by decide +kernel
theorem dX11_count_70 : decode cX11_count 70 = .ok (.ireturn, 1) := by decide +kernel
theorem dX11_count_71 : decode cX11_count 71 = .ok (.aload_n 0, 1) := by decide +kernel
theorem dX11_count_72 : decode cX11_count 72 = .ok (.getfield 23, 3) := by decide +kernel
theorem dX11_count_75 : decode cX11_count 75 = .ok (.iconst 0, 1) := by decide +kernel
theorem dX11_count_76 : decode cX11_count 76 = .ok (.iaload, 1) := by decide +kernel
theorem dX11_count_77 : decode cX11_count 77 = .ok (.ireturn, 1) := by decide +kernel
theorem dX11_count_78 : decode cX11_count 78 = .ok (.aload_n 0, 1) := by decide +kernel
theorem dX11_count_79 : decode cX11_count 79 = .ok (.getfield 57, 3) := by decide +kernel
theorem dX11_count_82 : decode cX11_count 82 = .ok (.bipush 116, 2) := by decide +kernel
theorem dX11_count_84 : decode cX11_count 84 = .ok (.iaload, 1) := by decide +kernel
theorem dX11_count_85 : decode cX11_count 85 = .ok (.ireturn, 1) := by decide +kernel
theorem dX11_count_86 : decode cX11_count 86 = .ok (.aload_n 0, 1) := by decide +kernel
theorem dX11_count_87 : decode cX11_count 87 = .ok (.invokevirtual 331, 3) := by decide +kernel
theorem dX11_count_90 : decode cX11_count 90 = .ok (.aload_n 0, 1) := by decide +kernel
theorem dX11_count_91 : decode cX11_count 91 = .ok (.getfield 325, 3) := by decide +kernel
theorem dX11_count_94 : decode cX11_count 94 = .ok (.ireturn, 1) := by decide +kernel
theorem dX11_count_95 : decode cX11_count 95 = .ok (.aload_n 0, 1) := by decide +kernel
theorem dX11_count_96 : decode cX11_count 96 = .ok (.getfield 254, 3) := by decide +kernel
theorem dX11_count_99 : decode cX11_count 99 = .ok (.ireturn, 1) := by decide +kernel
theorem dX11_count_100 : decode cX11_count 100 = .ok (.aload_n 0, 1) := by decide +kernel
theorem dX11_count_101 : decode cX11_count 101 = .ok (.getfield 92, 3) := by decide +kernel
theorem dX11_count_104 : decode cX11_count 104 = .ok (.ireturn, 1) := by decide +kernel
theorem dX11_count_105 : decode cX11_count 105 = .ok (.iconst (-1), 1) := by decide +kernel
theorem dX11_count_106 : decode cX11_count 106 = .ok (.ireturn, 1) := by decide +kernel
theorem dJ6_numberOfTrailingZeros_0f7a4_0 : decode cJ6_numberOfTrailingZeros_0f7a4 0 = .ok (.iload_n 0, 1) := by decide +kernel
theorem dJ6_numberOfTrailingZeros_0f7a4_1 : decode cJ6_numberOfTrailingZeros_0f7a4 1 = .ok (.iconst (-1), 1) := by decide +kernel
theorem dJ6_numberOfTrailingZeros_0f7a4_2 : decode cJ6_numberOfTrailingZeros_0f7a4 2 = .ok (.ixor, 1) := by decide +kernel
theorem dJ6_numberOfTrailingZeros_0f7a4_3 : decode cJ6_numberOfTrailingZeros_0f7a4 3 = .ok (.iload_n 0, 1) := by decide +kernel
theorem dJ6_numberOfTrailingZeros_0f7a4_4 : decode cJ6_numberOfTrailingZeros_0f7a4 4 = .ok (.iconst 1, 1) := by decide +kernel
theorem dJ6_numberOfTrailingZeros_0f7a4_5 : decode cJ6_numberOfTrailingZeros_0f7a4 5 = .ok (.isub, 1) := by decide +kernel
theorem dJ6_numberOfTrailingZeros_0f7a4_6 : decode cJ6_numberOfTrailingZeros_0f7a4 6 = .ok (.iand, 1) := by decide +kernel
theorem dJ6_numberOfTrailingZeros_0f7a4_7 : decode cJ6_numberOfTrailingZeros_0f7a4 7 = .ok (.istore_n 0, 1) := by decide +kernel
theorem dJ6_numberOfTrailingZeros_0f7a4_8 : decode cJ6_numberOfTrailingZeros_0f7a4 8 = .ok (.iload_n 0, 1) := by decide +kernel
theorem dJ6_numberOfTrailingZeros_0f7a4_9 : decode cJ6_numberOfTrailingZeros_0f7a4 9 = .ok (.ifCond .gt 8, 3) := by decide +kernel
theorem dJ6_numberOfTrailingZeros_0f7a4_12 : decode cJ6_numberOfTrailingZeros_0f7a4 12 = .ok (.iload_n 0, 1) := by decide +kernel
theorem dJ6_numberOfTrailingZeros_0f7a4_13 : decode cJ6_numberOfTrailingZeros_0f7a4 13 = .ok (.bipush 32, 2) := by decide +kernel
theorem dJ6_numberOfTrailingZeros_0f7a4_15 : decode cJ6_numberOfTrailingZeros_0f7a4 15 = .ok (.iand, 1) := by decide +kernel
theorem dJ6_numberOfTrailingZeros_0f7a4_16 : decode cJ6_numberOfTrailingZeros_0f7a4 16 = .ok (.ireturn, 1) := by decide +kernel
theorem dJ6_numberOfTrailingZeros_0f7a4_17 : decode cJ6_numberOfTrailingZeros_0f7a4 17 = .ok (.iconst 1, 1) := by decide +kernel
theorem dJ6_numberOfTrailingZeros_0f7a4_18 : decode cJ6_numberOfTrailingZeros_0f7a4 18 = .ok (.istore_n 1, 1) := by decide +kernel
theorem dJ6_numberOfTrailingZeros_0f7a4_19 : decode cJ6_numberOfTrailingZeros_0f7a4 19 = .ok (.iload_n 0, 1) := by decide +kernel
theorem dJ6_numberOfTrailingZeros_0f7a4_20 : decode cJ6_numberOfTrailingZeros_0f7a4 20 = .ok (.ldc_w 264, 3) := by decide +kernel
theorem dJ6_numberOfTrailingZeros_0f7a4_23 : decode cJ6_numberOfTrailingZeros_0f7a4 23 = .ok (.if_icmp .le 11, 3) := by decide +kernel
theorem dJ6_numberOfTrailingZeros_0f7a4_26 : decode cJ6_numberOfTrailingZeros_0f7a4 26 = .ok (.iinc 1 16, 3) := by decide +kernel
theorem dJ6_numberOfTrailingZeros_0f7a4_29 : decode cJ6_numberOfTrailingZeros_0f7a4 29 = .ok (.iload_n 0, 1) := by decide +kernel
theorem dJ6_numberOfTrailingZeros_0f7a4_30 : decode cJ6_numberOfTrailingZeros_0f7a4 30 = .ok (.bipush 16, 2) := by decide +kernel
theorem dJ6_numberOfTrailingZeros_0f7a4_32 : decode cJ6_numberOfTrailingZeros_0f7a4 32 = .ok (.iushr, 1) := by decide +kernel
theorem dJ6_numberOfTrailingZeros_0f7a4_33 : decode cJ6_numberOfTrailingZeros_0f7a4 33 = .ok (.istore_n 0, 1) := by decide +kernel
theorem dJ6_numberOfTrailingZeros_0f7a4_34 : decode cJ6_numberOfTrailingZeros_0f7a4 34 = .ok (.iload_n 0, 1) := by decide +kernel
theorem dJ6_numberOfTrailingZeros_0f7a4_35 : decode cJ6_numberOfTrailingZeros_0f7a4 35 = .ok (.sipush 256, 3) := by decide +kernel
theorem dJ6_numberOfTrailingZeros_0f7a4_38 : decode cJ6_numberOfTrailingZeros_0f7a4 38 = .ok (.if_icmp .le 11, 3) := by decide +kernel
theorem dJ6_numberOfTrailingZeros_0f7a4_41 : decode cJ6_numberOfTrailingZeros_0f7a4 41 = .ok (.iinc 1 8, 3) := by decide +kernel
theorem dJ6_numberOfTrailingZeros_0f7a4_44 : decode cJ6_numberOfTrailingZeros_0f7a4 44 = .ok (.iload_n 0, 1) := by decide +kernel
theorem dJ6_numberOfTrailingZeros_0f7a4_45 : decode cJ6_numberOfTrailingZeros_0f7a4 45 = .ok (.bipush 8, 2) := by decide +kernel
theorem dJ6_numberOfTrailingZeros_0f7a4_47 : decode cJ6_numberOfTrailingZeros_0f7a4 47 = .ok (.iushr, 1) := by decide +kernel
theorem dJ6_numberOfTrailingZeros_0f7a4_48 : decode cJ6_numberOfTrailingZeros_0f7a4 48 = .ok (.istore_n 0, 1) := by decide +kernel
theorem dJ6_numberOfTrailingZeros_0f7a4_49 : decode cJ6_numberOfTrailingZeros_0f7a4 49 = .ok (.iload_n 0, 1) := by decide +kernel
theorem dJ6_numberOfTrailingZeros_0f7a4_50 : decode cJ6_numberOfTrailingZeros_0f7a4 50 = .ok (.bipush 16, 2) := by decide +kernel
theorem dJ6_numberOfTrailingZeros_0f7a4_52 : decode cJ6_numberOfTrailingZeros_0f7a4 52 = .ok (.if_icmp .le 10, 3) := by decide +kernel
theorem dJ6_numberOfTrailingZeros_0f7a4_55 : decode cJ6_numberOfTrailingZeros_0f7a4 55 = .ok (.iinc 1 4, 3) := by decide +kernel
theorem dJ6_numberOfTrailingZeros_0f7a4_58 : decode cJ6_numberOfTrailingZeros_0f7a4 58 = .ok (.iload_n 0, 1) := by decide +kernel
theorem dJ6_numberOfTrailingZeros_0f7a4_59 : decode cJ6_numberOfTrailingZeros_0f7a4 59 = .ok (.iconst 4, 1) := by decide +kernel
theorem dJ6_numberOfTrailingZeros_0f7a4_60 : decode cJ6_numberOfTrailingZeros_0f7a4 60 = .ok (.iushr, 1) := by decide +kernel
theorem dJ6_numberOfTrailingZeros_0f7a4_61 : decode cJ6_numberOfTrailingZeros_0f7a4 61 = .ok (.istore_n 0, 1) := by decide +kernel
theorem dJ6_numberOfTrailingZeros_0f7a4_62 : decode cJ6_numberOfTrailingZeros_0f7a4 62 = .ok (.iload_n 0, 1) := by decide +kernel
theorem dJ6_numberOfTrailingZeros_0f7a4_63 : decode cJ6_numberOfTrailingZeros_0f7a4 63 = .ok (.iconst 4, 1) := by decide +kernel
theorem dJ6_numberOfTrailingZeros_0f7a4_64 : decode cJ6_numberOfTrailingZeros_0f7a4 64 = .ok (.if_icmp .le 10, 3) := by decide +kernel
theorem dJ6_numberOfTrailingZeros_0f7a4_67 : decode cJ6_numberOfTrailingZeros_0f7a4 67 = .ok (.iinc 1 2, 3) := by decide +kernel
theorem dJ6_numberOfTrailingZeros_0f7a4_70 : decode cJ6_numberOfTrailingZeros_0f7a4 70 = .ok (.iload_n 0, 1) := by decide +kernel
theorem dJ6_numberOfTrailingZeros_0f7a4_71 : decode cJ6_numberOfTrailingZeros_0f7a4 71 = .ok (.iconst 2, 1) := by decide +kernel
theorem dJ6_numberOfTrailingZeros_0f7a4_72 : decode cJ6_numberOfTrailingZeros_0f7a4 72 = .ok (.iushr, 1) := by decide +kernel
theorem dJ6_numberOfTrailingZeros_0f7a4_73 : decode cJ6_numberOfTrailingZeros_0f7a4 73 = .ok (.istore_n 0, 1) := by decide +kernel
theorem dJ6_numberOfTrailingZeros_0f7a4_74 : decode cJ6_numberOfTrailingZeros_0f7a4 74 = .ok (.iload_n 1, 1) := by decide +kernel
theorem dJ6_numberOfTrailingZeros_0f7a4_75 : decode cJ6_numberOfTrailingZeros_0f7a4 75 = .ok (.iload_n 0, 1) := by decide +kernel
theorem dJ6_numberOfTrailingZeros_0f7a4_76 : decode cJ6_numberOfTrailingZeros_0f7a4 76 = .ok (.iconst 1, 1) := by decide +kernel
theorem dJ6_numberOfTrailingZeros_0f7a4_77 : decode cJ6_numberOfTrailingZeros_0f7a4 77 = .ok (.iushr, 1) := by decide +kernel
theorem dJ6_numberOfTrailingZeros_0f7a4_78 : decode cJ6_numberOfTrailingZeros_0f7a4 78 = .ok (.iadd, 1) := by decide +kernel
theorem dJ6_numberOfTrailingZeros_0f7a4_79 : decode cJ6_numberOfTrailingZeros_0f7a4 79 = .ok (.ireturn, 1) := by decide +kernel
theorem dJ6_bitCount_0f7a4_0 : decode cJ6_bitCount_0f7a4 0 = .ok (.iload_n 0, 1) := by decide +kernel
theorem dJ6_bitCount_0f7a4_1 : decode cJ6_bitCount_0f7a4 1 = .ok (.iload_n 0, 1) := by decide +kernel
theorem dJ6_bitCount_0f7a4_2 : decode cJ6_bitCount_0f7a4 2 = .ok (.iconst 1, 1) := by decide +kernel
theorem dJ6_bitCount_0f7a4_3 : decode cJ6_bitCount_0f7a4 3 = .ok (.iushr, 1) := by decide +kernel
theorem dJ6_bitCount_0f7a4_4 : decode cJ6_bitCount_0f7a4 4 = .ok (.ldc_w 265, 3) := by decide +kernel
theorem dJ6_bitCount_0f7a4_7 : decode cJ6_bitCount_0f7a4 7 = .ok (.iand, 1) := by decide +kernel
theorem dJ6_bitCount_0f7a4_8 : decode cJ6_bitCount_0f7a4 8 = .ok (.isub, 1) := by decide +kernel
theorem dJ6_bitCount_0f7a4_9 : decode cJ6_bitCount_0f7a4 9 = .ok (.istore_n 0, 1) := by decide +kernel
theorem dJ6_bitCount_0f7a4_10 : decode cJ6_bitCount_0f7a4 10 = .ok (.iload_n 0, 1) := by decide +kernel
theorem dJ6_bitCount_0f7a4_11 : decode cJ6_bitCount_0f7a4 11 = .ok (.ldc_w 266, 3) := by decide +kernel
theorem dJ6_bitCount_0f7a4_14 : decode cJ6_bitCount_0f7a4 14 = .ok (.iand, 1) := by decide +kernel
theorem dJ6_bitCount_0f7a4_15 : decode cJ6_bitCount_0f7a4 15 = .ok (.iload_n 0, 1) := by decide +kernel
theorem dJ6_bitCount_0f7a4_16 : decode cJ6_bitCount_0f7a4 16 = .ok (.iconst 2, 1) := by decide +kernel
theorem dJ6_bitCount_0f7a4_17 : decode cJ6_bitCount_0f7a4 17 = .ok (.iushr, 1) := by decide +kernel
theorem dJ6_bitCount_0f7a4_18 : decode cJ6_bitCount_0f7a4 18 = .ok (.ldc_w 266, 3) := by decide +kernel
theorem dJ6_bitCount_0f7a4_21 : decode cJ6_bitCount_0f7a4 21 = .ok (.iand, 1) := by decide +kernel
theorem dJ6_bitCount_0f7a4_22 : decode cJ6_bitCount_0f7a4 22 = .ok (.iadd, 1) := by decide +kernel
theorem dJ6_bitCount_0f7a4_23 : decode cJ6_bitCount_0f7a4 23 = .ok (.istore_n 0, 1) := by decide +kernel
theorem dJ6_bitCount_0f7a4_24 : decode cJ6_bitCount_0f7a4 24 = .ok (.iload_n 0, 1) := by decide +kernel
theorem dJ6_bitCount_0f7a4_25 : decode cJ6_bitCount_0f7a4 25 = .ok (.iload_n 0, 1) := by decide +kernel
theorem dJ6_bitCount_0f7a4_26 : decode cJ6_bitCount_0f7a4 26 = .ok (.iconst 4, 1) := by decide +kernel
theorem dJ6_bitCount_0f7a4_27 : decode cJ6_bitCount_0f7a4 27 = .ok (.iushr, 1) := by decide +kernel
theorem dJ6_bitCount_0f7a4_28 : decode cJ6_bitCount_0f7a4 28 = .ok (.iadd, 1) := by decide +kernel
theorem dJ6_bitCount_0f7a4_29 : decode cJ6_bitCount_0f7a4 29 = .ok (.ldc_w 267, 3) := by decide +kernel
theorem dJ6_bitCount_0f7a4_32 : decode cJ6_bitCount_0f7a4 32 = .ok (.iand, 1) := by decide +kernel
theorem dJ6_bitCount_0f7a4_33 : decode cJ6_bitCount_0f7a4 33 = .ok (.istore_n 0, 1) := by decide +kernel
theorem dJ6_bitCount_0f7a4_34 : decode cJ6_bitCount_0f7a4 34 = .ok (.iload_n 0, 1) := by decide +kernel
theorem dJ6_bitCount_0f7a4_35 : decode cJ6_bitCount_0f7a4 35 = .ok (.iload_n 0, 1) := by decide +kernel
theorem dJ6_bitCount_0f7a4_36 : decode cJ6_bitCount_0f7a4 36 = .ok (.bipush 8, 2) := by decide +kernel
theorem dJ6_bitCount_0f7a4_38 : decode cJ6_bitCount_0f7a4 38 = .ok (.iushr, 1) := by decide +kernel
theorem dJ6_bitCount_0f7a4_39 : decode cJ6_bitCount_0f7a4 39 = .ok (.iadd, 1) := by decide +kernel
theorem dJ6_bitCount_0f7a4_40 : decode cJ6_bitCount_0f7a4 40 = .ok (.istore_n 0, 1) := by decide +kernel
theorem dJ6_bitCount_0f7a4_41 : decode cJ6_bitCount_0f7a4 41 = .ok (.iload_n 0, 1) := by decide +kernel
theorem dJ6_bitCount_0f7a4_42 : decode cJ6_bitCount_0f7a4 42 = .ok (.iload_n 0, 1) := by decide +kernel
theorem dJ6_bitCount_0f7a4_43 : decode cJ6_bitCount_0f7a4 43 = .ok (.bipush 16, 2) := by decide +kernel
theorem dJ6_bitCount_0f7a4_45 : decode cJ6_bitCount_0f7a4 45 = .ok (.iushr, 1) := by decide +kernel
theorem dJ6_bitCount_0f7a4_46 : decode cJ6_bitCount_0f7a4 46 = .ok (.iadd, 1) := by decide +kernel
theorem dJ6_bitCount_0f7a4_47 : decode cJ6_bitCount_0f7a4 47 = .ok (.istore_n 0, 1) := by decide +kernel
theorem dJ6_bitCount_0f7a4_48 : decode cJ6_bitCount_0f7a4 48 = .ok (.iload_n 0, 1) := by decide +kernel
theorem dJ6_bitCount_0f7a4_49 : decode cJ6_bitCount_0f7a4 49 = .ok (.bipush 63, 2) := by decide +kernel
theorem dJ6_bitCount_0f7a4_51 : decode cJ6_bitCount_0f7a4 51 = .ok (.iand, 1) := by decide +kernel
theorem dJ6_bitCount_0f7a4_52 : decode cJ6_bitCount_0f7a4 52 = .ok (.ireturn, 1) := by decide +kernel
theorem dJ9_floorMod_7cf53_0 : decode cJ9_floorMod_7cf53 0 = .ok (.iload_n 0, 1) := by decide +kernel
theorem dJ9_floorMod_7cf53_1 : decode cJ9_floorMod_7cf53 1 = .ok (.iload_n 1, 1) := by decide +kernel
theorem dJ9_floorMod_7cf53_2 : decode cJ9_floorMod_7cf53 2 = .ok (.irem, 1) := by decide +kernel
theorem dJ9_floorMod_7cf53_3 : decode cJ9_floorMod_7cf53 3 = .ok (.istore_n 2, 1) := by decide +kernel
theorem dJ9_floorMod_7cf53_4 : decode cJ9_floorMod_7cf53 4 = .ok (.iload_n 0, 1) := by decide +kernel
theorem dJ9_floorMod_7cf53_5 : decode cJ9_floorMod_7cf53 5 = .ok (.iload_n 1, 1) := by decide +kernel
theorem dJ9_floorMod_7cf53_6 : decode cJ9_floorMod_7cf53 6 = .ok (.ixor, 1) := by decide +kernel
theorem dJ9_floorMod_7cf53_7 : decode cJ9_floorMod_7cf53 7 = .ok (.ifCond .ge 11, 3) := by decide +kernel
theorem dJ9_floorMod_7cf53_10 : decode cJ9_floorMod_7cf53 10 = .ok (.iload_n 2, 1) := by decide +kernel
theorem dJ9_floorMod_7cf53_11 : decode cJ9_floorMod_7cf53 11 = .ok (.ifCond .eq 7, 3) := by decide +kernel
theorem dJ9_floorMod_7cf53_14 : decode cJ9_floorMod_7cf53 14 = .ok (.iload_n 2, 1) := by decide +kernel
theorem dJ9_floorMod_7cf53_15 : decode cJ9_floorMod_7cf53 15 = .ok (.iload_n 1, 1) := by decide +kernel
theorem dJ9_floorMod_7cf53_16 : decode cJ9_floorMod_7cf53 16 = .ok (.iadd, 1) := by decide +kernel
theorem dJ9_floorMod_7cf53_17 : decode cJ9_floorMod_7cf53 17 = .ok (.ireturn, 1) := by decide +kernel
theorem dJ9_floorMod_7cf53_18 : decode cJ9_floorMod_7cf53 18 = .ok (.iload_n 2, 1) := by decide +kernel
theorem dJ9_floorMod_7cf53_19 : decode cJ9_floorMod_7cf53 19 = .ok (.ireturn, 1) := by decide +kernel
theorem dJ9_max_7cf53_0 : decode cJ9_max_7cf53 0 = .ok (.iload_n 0, 1) := by decide +kernel
theorem dJ9_max_7cf53_1 : decode cJ9_max_7cf53 1 = .ok (.iload_n 1, 1) := by decide +kernel
theorem dJ9_max_7cf53_2 : decode cJ9_max_7cf53 2 = .ok (.if_icmp .lt 7, 3) := by decide +kernel
theorem dJ9_max_7cf53_5 : decode cJ9_max_7cf53 5 = .ok (.iload_n 0, 1) := by decide +kernel
theorem dJ9_max_7cf53_6 : decode cJ9_max_7cf53 6 = .ok (.goto 4, 3) := by decide +kernel
theorem dJ9_max_7cf53_9 : decode cJ9_max_7cf53 9 = .ok (.iload_n 1, 1) := by decide +kernel
theorem dJ9_max_7cf53_10 : decode cJ9_max_7cf53 10 = .ok (.ireturn, 1) := by decide +kernel
theorem dJ9_min_7cf53_0 : decode cJ9_min_7cf53 0 = .ok (.iload_n 0, 1) := by decide +kernel
theorem dJ9_min_7cf53_1 : decode cJ9_min_7cf53 1 = .ok (.iload_n 1, 1) := by decide +kernel
theorem dJ9_min_7cf53_2 : decode cJ9_min_7cf53 2 = .ok (.if_icmp .gt 7, 3) := by decide +kernel
theorem dJ9_min_7cf53_5 : decode cJ9_min_7cf53 5 = .ok (.iload_n 0, 1) := by decide +kernel
theorem dJ9_min_7cf53_6 : decode cJ9_min_7cf53 6 = .ok (.goto 4, 3) := by decide +kernel
theorem dJ9_min_7cf53_9 : decode cJ9_min_7cf53 9 = .ok (.iload_n 1, 1) := by decide +kernel
theorem dJ9_min_7cf53_10 : decode cJ9_min_7cf53 10 = .ok (.ireturn, 1) := by decide +kernel
theorem dJ0_length_8abf5_0 : decode cJ0_length_8abf5 0 = .ok (.aload_n 0, 1) := by decide +kernel
theorem dJ0_length_8abf5_1 : decode cJ0_length_8abf5 1 = .ok (.getfield 9, 3) := by decide +kernel
theorem dJ0_length_8abf5_4 : decode cJ0_length_8abf5 4 = .ok (.arraylength, 1) := by decide +kernel
theorem dJ0_length_8abf5_5 : decode cJ0_length_8abf5 5 = .ok (.aload_n 0, 1) := by decide +kernel
theorem dJ0_length_8abf5_6 : decode cJ0_length_8abf5 6 = .ok (.invokevirtual 335, 3) := by decide +kernel
theorem dJ0_length_8abf5_9 : decode cJ0_length_8abf5 9 = .ok (.ishr, 1) := by decide +kernel
theorem dJ0_length_8abf5_10 : decode cJ0_length_8abf5 10 = .ok (.ireturn, 1) := by decide +kernel
theorem dJ0_charAt_5068e_0 : decode cJ0_charAt_5068e 0 = .ok (.aload_n 0, 1) := by decide +kernel
theorem dJ0_charAt_5068e_1 : decode cJ0_charAt_5068e 1 = .ok (.invokevirtual 492, 3) := by decide +kernel
theorem dJ0_charAt_5068e_4 : decode cJ0_charAt_5068e 4 = .ok (.ifCond .eq 12, 3) := by decide +kernel
theorem dJ0_charAt_5068e_7 : decode cJ0_charAt_5068e 7 = .ok (.aload_n 0, 1) := by decide +kernel
theorem dJ0_charAt_5068e_8 : decode cJ0_charAt_5068e 8 = .ok (.getfield 9, 3) := by decide +kernel
theorem dJ0_charAt_5068e_11 : decode cJ0_charAt_5068e 11 = .ok (.iload_n 1, 1) := by decide +kernel
theorem dJ0_charAt_5068e_12 : decode cJ0_charAt_5068e 12 = .ok (.invokestatic 495, 3) := by decide +kernel
theorem dJ0_charAt_5068e_15 : decode cJ0_charAt_5068e 15 = .ok (.ireturn, 1) := by decide +kernel
theorem dJ0_charAt_5068e_16 : decode cJ0_charAt_5068e 16 = .ok (.aload_n 0, 1) := by decide +kernel
theorem dJ0_charAt_5068e_17 : decode cJ0_charAt_5068e 17 = .ok (.getfield 9, 3) := by decide +kernel
theorem dJ0_charAt_5068e_20 : decode cJ0_charAt_5068e 20 = .ok (.iload_n 1, 1) := by decide +kernel
theorem dJ0_charAt_5068e_21 : decode cJ0_charAt_5068e 21 = .ok (.invokestatic 498, 3) := by decide +kernel
theorem dJ0_charAt_5068e_24 : decode cJ0_charAt_5068e 24 = .ok (.ireturn, 1) := by decide +kernel
theorem dJ0_coder_7d493_0 : decode cJ0_coder_7d493 0 = .ok (.getstatic 38, 3) := by decide +kernel
theorem dJ0_coder_7d493_3 : decode cJ0_coder_7d493 3 = .ok (.ifCond .eq 10, 3) := by decide +kernel
theorem dJ0_coder_7d493_6 : decode cJ0_coder_7d493 6 = .ok (.aload_n 0, 1) := by decide +kernel
theorem dJ0_coder_7d493_7 : decode cJ0_coder_7d493 7 = .ok (.getfield 15, 3) := by decide +kernel
theorem dJ0_coder_7d493_10 : decode cJ0_coder_7d493 10 = .ok (.goto 4, 3) := by decide +kernel
theorem dJ0_coder_7d493_13 : decode cJ0_coder_7d493 13 = .ok (.iconst 1, 1) := by decide +kernel
theorem dJ0_coder_7d493_14 : decode cJ0_coder_7d493 14 = .ok (.ireturn, 1) := by decide +kernel
theorem dJ0_isLatin1_aae02_0 : decode cJ0_isLatin1_aae02 0 = .ok (.getstatic 38, 3) := by decide +kernel
theorem dJ0_isLatin1_aae02_3 : decode cJ0_isLatin1_aae02 3 = .ok (.ifCond .eq 14, 3) := by decide +kernel
theorem dJ0_isLatin1_aae02_6 : decode cJ0_isLatin1_aae02 6 = .ok (.aload_n 0, 1) := by decide +kernel
theorem dJ0_isLatin1_aae02_7 : decode cJ0_isLatin1_aae02 7 = .ok (.getfield 15, 3) := by decide +kernel
theorem dJ0_isLatin1_aae02_10 : decode cJ0_isLatin1_aae02 10 = .ok (.ifCond .ne 7, 3) := by decide +kernel
theorem dJ0_isLatin1_aae02_13 : decode cJ0_isLatin1_aae02 13 = .ok (.iconst 1, 1) := by decide +kernel
theorem dJ0_isLatin1_aae02_14 : decode cJ0_isLatin1_aae02 14 = .ok (.goto 4, 3) := by decide +kernel
theorem dJ0_isLatin1_aae02_17 : decode cJ0_isLatin1_aae02 17 = .ok (.iconst 0, 1) := by decide +kernel
theorem dJ0_isLatin1_aae02_18 : decode cJ0_isLatin1_aae02 18 = .ok (.ireturn, 1) := by decide +kernel
theorem dJ0_checkIndex_df160_0 : decode cJ0_checkIndex_df160 0 = .ok (.iload_n 0, 1) := by decide +kernel
theorem dJ0_checkIndex_df160_1 : decode cJ0_checkIndex_df160 1 = .ok (.iload_n 1, 1) := by decide +kernel
theorem dJ0_checkIndex_df160_2 : decode cJ0_checkIndex_df160 2 = .ok (.getstatic 1053, 3) := by decide +kernel
theorem dJ0_checkIndex_df160_5 : decode cJ0_checkIndex_df160 5 = .ok (.invokestatic 1059, 3) := by decide +kernel
theorem dJ0_checkIndex_df160_8 : decode cJ0_checkIndex_df160 8 = .ok (.pop, 1) := by decide +kernel
theorem dJ0_checkIndex_df160_9 : decode cJ0_checkIndex_df160 9 = .ok (.return_, 1) := by decide +kernel
theorem dJ1_charAt_3b067_0 : decode cJ1_charAt_3b067 0 = .ok (.iload_n 1, 1) := by decide +kernel
theorem dJ1_charAt_3b067_1 : decode cJ1_charAt_3b067 1 = .ok (.aload_n 0, 1) := by decide +kernel
theorem dJ1_charAt_3b067_2 : decode cJ1_charAt_3b067 2 = .ok (.arraylength, 1) := by decide +kernel
theorem dJ1_charAt_3b067_3 : decode cJ1_charAt_3b067 3 = .ok (.invokestatic 9, 3) := by decide +kernel
theorem dJ1_charAt_3b067_6 : decode cJ1_charAt_3b067 6 = .ok (.aload_n 0, 1) := by decide +kernel
theorem dJ1_charAt_3b067_7 : decode cJ1_charAt_3b067 7 = .ok (.iload_n 1, 1) := by decide +kernel
theorem dJ1_charAt_3b067_8 : decode cJ1_charAt_3b067 8 = .ok (.baload, 1) := by decide +kernel
theorem dJ1_charAt_3b067_9 : decode cJ1_charAt_3b067 9 = .ok (.sipush 255, 3) := by decide +kernel
theorem dJ1_charAt_3b067_12 : decode cJ1_charAt_3b067 12 = .ok (.iand, 1) := by decide +kernel
theorem dJ1_charAt_3b067_13 : decode cJ1_charAt_3b067 13 = .ok (.i2c, 1) := by decide +kernel
theorem dJ1_charAt_3b067_14 : decode cJ1_charAt_3b067 14 = .ok (.ireturn, 1) := by decide +kernel
theorem dJ2_getChar_3b067_0 : decode cJ2_getChar_3b067 0 = .ok (.getstatic 44, 3) := by decide +kernel
theorem dJ2_getChar_3b067_3 : decode cJ2_getChar_3b067 3 = .ok (.ifCond .ne 25, 3) := by decide +kernel
theorem dJ2_getChar_3b067_6 : decode cJ2_getChar_3b067 6 = .ok (.iload_n 1, 1) := by decide +kernel
theorem dJ2_getChar_3b067_7 : decode cJ2_getChar_3b067 7 = .ok (.ifCond .lt 11, 3) := by decide +kernel
theorem dJ2_getChar_3b067_10 : decode cJ2_getChar_3b067 10 = .ok (.iload_n 1, 1) := by decide +kernel
theorem dJ2_getChar_3b067_11 : decode cJ2_getChar_3b067 11 = .ok (.aload_n 0, 1) := by decide +kernel
theorem dJ2_getChar_3b067_12 : decode cJ2_getChar_3b067 12 = .ok (.invokestatic 48, 3) := by decide +kernel
theorem dJ2_getChar_3b067_15 : decode cJ2_getChar_3b067 15 = .ok (.if_icmp .lt 13, 3) := by decide +kernel
theorem dJ2_getChar_3b067_18 : decode cJ2_getChar_3b067 18 = .ok (.new 52, 3) := by decide +kernel
theorem dJ2_getChar_3b067_21 : decode cJ2_getChar_3b067 21 = .ok (.dup, 1) := by decide +kernel
theorem dJ2_getChar_3b067_22 : decode cJ2_getChar_3b067 22 = .ok (.ldc 54, 2) := by decide +kernel
theorem dJ2_getChar_3b067_24 : decode cJ2_getChar_3b067 24 = .ok (.invokespecial 56, 3) := by decide +kernel
theorem dJ2_getChar_3b067_27 : decode cJ2_getChar_3b067 27 = .ok (.athrow, 1) := by decide +kernel
theorem dJ2_getChar_3b067_28 : decode cJ2_getChar_3b067 28 = .ok (.iload_n 1, 1) := by decide +kernel
theorem dJ2_getChar_3b067_29 : decode cJ2_getChar_3b067 29 = .ok (.iconst 1, 1) := by decide +kernel
theorem dJ2_getChar_3b067_30 : decode cJ2_getChar_3b067 30 = .ok (.ishl, 1) := by decide +kernel
theorem dJ2_getChar_3b067_31 : decode cJ2_getChar_3b067 31 = .ok (.istore_n 1, 1) := by decide +kernel
theorem dJ2_getChar_3b067_32 : decode cJ2_getChar_3b067 32 = .ok (.aload_n 0, 1) := by decide +kernel
theorem dJ2_getChar_3b067_33 : decode cJ2_getChar_3b067 33 = .ok (.iload_n 1, 1) := by decide +kernel
theorem dJ2_getChar_3b067_34 : decode cJ2_getChar_3b067 34 = .ok (.iinc 1 1, 3) := by decide +kernel
theorem dJ2_getChar_3b067_37 : decode cJ2_getChar_3b067 37 = .ok (.baload, 1) := by decide +kernel
theorem dJ2_getChar_3b067_38 : decode cJ2_getChar_3b067 38 = .ok (.sipush 255, 3) := by decide +kernel
theorem dJ2_getChar_3b067_41 : decode cJ2_getChar_3b067 41 = .ok (.iand, 1) := by decide +kernel
theorem dJ2_getChar_3b067_42 : decode cJ2_getChar_3b067 42 = .ok (.getstatic 59, 3) := by decide +kernel
theorem dJ2_getChar_3b067_45 : decode cJ2_getChar_3b067 45 = .ok (.ishl, 1) := by decide +kernel
theorem dJ2_getChar_3b067_46 : decode cJ2_getChar_3b067 46 = .ok (.aload_n 0, 1) := by decide +kernel
theorem dJ2_getChar_3b067_47 : decode cJ2_getChar_3b067 47 = .ok (.iload_n 1, 1) := by decide +kernel
theorem dJ2_getChar_3b067_48 : decode cJ2_getChar_3b067 48 = .ok (.baload, 1) := by decide +kernel
theorem dJ2_getChar_3b067_49 : decode cJ2_getChar_3b067 49 = .ok (.sipush 255, 3) := by decide +kernel
theorem dJ2_getChar_3b067_52 : decode cJ2_getChar_3b067 52 = .ok (.iand, 1) := by decide +kernel
theorem dJ2_getChar_3b067_53 : decode cJ2_getChar_3b067 53 = .ok (.getstatic 63, 3) := by decide +kernel
theorem dJ2_getChar_3b067_56 : decode cJ2_getChar_3b067 56 = .ok (.ishl, 1) := by decide +kernel
theorem dJ2_getChar_3b067_57 : decode cJ2_getChar_3b067 57 = .ok (.ior, 1) := by decide +kernel
theorem dJ2_getChar_3b067_58 : decode cJ2_getChar_3b067 58 = .ok (.i2c, 1) := by decide +kernel
theorem dJ2_getChar_3b067_59 : decode cJ2_getChar_3b067 59 = .ok (.ireturn, 1) := by decide +kernel
theorem dJ2_length_9d52b_0 : decode cJ2_length_9d52b 0 = .ok (.aload_n 0, 1) := by decide +kernel
theorem dJ2_length_9d52b_1 : decode cJ2_length_9d52b 1 = .ok (.arraylength, 1) := by decide +kernel
theorem dJ2_length_9d52b_2 : decode cJ2_length_9d52b 2 = .ok (.iconst 1, 1) := by decide +kernel
theorem dJ2_length_9d52b_3 : decode cJ2_length_9d52b 3 = .ok (.ishr, 1) := by decide +kernel
theorem dJ2_length_9d52b_4 : decode cJ2_length_9d52b 4 = .ok (.ireturn, 1) := by decide +kernel
theorem dJ2_charAt_3b067_0 : decode cJ2_charAt_3b067 0 = .ok (.iload_n 1, 1) := by decide +kernel
theorem dJ2_charAt_3b067_1 : decode cJ2_charAt_3b067 1 = .ok (.aload_n 0, 1) := by decide +kernel
theorem dJ2_charAt_3b067_2 : decode cJ2_charAt_3b067 2 = .ok (.invokestatic 67, 3) := by decide +kernel
theorem dJ2_charAt_3b067_5 : decode cJ2_charAt_3b067 5 = .ok (.aload_n 0, 1) := by decide +kernel
theorem dJ2_charAt_3b067_6 : decode cJ2_charAt_3b067 6 = .ok (.iload_n 1, 1) := by decide +kernel
theorem dJ2_charAt_3b067_7 : decode cJ2_charAt_3b067 7 = .ok (.invokestatic 71, 3) := by decide +kernel
theorem dJ2_charAt_3b067_10 : decode cJ2_charAt_3b067 10 = .ok (.ireturn, 1) := by decide +kernel
theorem dJ2_checkIndex_2214a_0 : decode cJ2_checkIndex_2214a 0 = .ok (.iload_n 0, 1) := by decide +kernel
theorem dJ2_checkIndex_2214a_1 : decode cJ2_checkIndex_2214a 1 = .ok (.aload_n 1, 1) := by decide +kernel
theorem dJ2_checkIndex_2214a_2 : decode cJ2_checkIndex_2214a 2 = .ok (.invokestatic 48, 3) := by decide +kernel
theorem dJ2_checkIndex_2214a_5 : decode cJ2_checkIndex_2214a 5 = .ok (.invokestatic 414, 3) := by decide +kernel
theorem dJ2_checkIndex_2214a_8 : decode cJ2_checkIndex_2214a 8 = .ok (.return_, 1) := by decide +kernel
theorem dJ3_checkIndex_8e157_0 : decode cJ3_checkIndex_8e157 0 = .ok (.iload_n 0, 1) := by decide +kernel
theorem dJ3_checkIndex_8e157_1 : decode cJ3_checkIndex_8e157 1 = .ok (.ifCond .lt 8, 3) := by decide +kernel
theorem dJ3_checkIndex_8e157_4 : decode cJ3_checkIndex_8e157 4 = .ok (.iload_n 0, 1) := by decide +kernel
theorem dJ3_checkIndex_8e157_5 : decode cJ3_checkIndex_8e157 5 = .ok (.iload_n 1, 1) := by decide +kernel
theorem dJ3_checkIndex_8e157_6 : decode cJ3_checkIndex_8e157 6 = .ok (.if_icmp .lt 10, 3) := by decide +kernel
theorem dJ3_checkIndex_8e157_9 : decode cJ3_checkIndex_8e157 9 = .ok (.aload_n 2, 1) := by decide +kernel
theorem dJ3_checkIndex_8e157_10 : decode cJ3_checkIndex_8e157 10 = .ok (.iload_n 0, 1) := by decide +kernel
theorem dJ3_checkIndex_8e157_11 : decode cJ3_checkIndex_8e157 11 = .ok (.iload_n 1, 1) := by decide +kernel
theorem dJ3_checkIndex_8e157_12 : decode cJ3_checkIndex_8e157 12 = .ok (.invokestatic 95, 3) := by decide +kernel
theorem dJ3_checkIndex_8e157_15 : decode cJ3_checkIndex_8e157 15 = .ok (.athrow, 1) := by decide +kernel
theorem dJ3_checkIndex_8e157_16 : decode cJ3_checkIndex_8e157 16 = .ok (.iload_n 0, 1) := by decide +kernel
theorem dJ3_checkIndex_8e157_17 : decode cJ3_checkIndex_8e157 17 = .ok (.ireturn, 1) := by decide +kernel
theorem dL_base_0 : decode cL_base 0 = .ok (.aload_n 3, 1) := by decide +kernel
theorem dL_base_1 : decode cL_base 1 = .ok (.iconst 0, 1) := by decide +kernel
theorem dL_base_2 : decode cL_base 2 = .ok (.aload_n 0, 1) := by decide +kernel
theorem dL_base_3 : decode cL_base 3 = .ok (.iload_n 1, 1) := by decide +kernel
theorem dL_base_4 : decode cL_base 4 = .ok (.iload_n 2, 1) := by decide +kernel
theorem dL_base_5 : decode cL_base 5 = .ok (.invokevirtual 7, 3) := by decide +kernel
theorem dL_base_8 : decode cL_base 8 = .ok (.i2l, 1) := by decide +kernel
theorem dL_base_9 : decode cL_base 9 = .ok (.lastore, 1) := by decide +kernel
theorem dL_base_10 : decode cL_base 10 = .ok (.goto 7, 3) := by decide +kernel
theorem dL_base_13 : decode cL_base 13 = .ok (.astore 4, 2) := by decide +kernel
theorem dL_base_15 : decode cL_base 15 = .ok (.iconst 1, 1) := by decide +kernel
theorem dL_base_16 : decode cL_base 16 = .ok (.ireturn, 1) := by decide +kernel
theorem dL_base_17 : decode cL_base 17 = .ok (.iconst 0, 1) := by decide +kernel
theorem dL_base_18 : decode cL_base 18 = .ok (.ireturn, 1) := by decide +kernel
theorem dL_wire_0 : decode cL_wire 0 = .ok (.aload_n 3, 1) := by decide +kernel
theorem dL_wire_1 : decode cL_wire 1 = .ok (.iconst 0, 1) := by decide +kernel
theorem dL_wire_2 : decode cL_wire 2 = .ok (.aload_n 0, 1) := by decide +kernel
theorem dL_wire_3 : decode cL_wire 3 = .ok (.iload_n 1, 1) := by decide +kernel
theorem dL_wire_4 : decode cL_wire 4 = .ok (.iload_n 2, 1) := by decide +kernel
theorem dL_wire_5 : decode cL_wire 5 = .ok (.invokevirtual 15, 3) := by decide +kernel
theorem dL_wire_8 : decode cL_wire 8 = .ok (.i2l, 1) := by decide +kernel
theorem dL_wire_9 : decode cL_wire 9 = .ok (.lastore, 1) := by decide +kernel
theorem dL_wire_10 : decode cL_wire 10 = .ok (.goto 7, 3) := by decide +kernel
theorem dL_wire_13 : decode cL_wire 13 = .ok (.astore 4, 2) := by decide +kernel
theorem dL_wire_15 : decode cL_wire 15 = .ok (.iconst 1, 1) := by decide +kernel
theorem dL_wire_16 : decode cL_wire 16 = .ok (.ireturn, 1) := by decide +kernel
theorem dL_wire_17 : decode cL_wire 17 = .ok (.iconst 0, 1) := by decide +kernel
theorem dL_wire_18 : decode cL_wire 18 = .ok (.ireturn, 1) := by decide +kernel
theorem dL_law_0 : decode cL_law 0 = .ok (.new 8, 3) := by decide +kernel
theorem dL_law_3 : decode cL_law 3 = .ok (.dup, 1) := by decide +kernel
theorem dL_law_4 : decode cL_law 4 = .ok (.invokespecial 18, 3) := by decide +kernel
theorem dL_law_7 : decode cL_law 7 = .ok (.astore_n 1, 1) := by decide +kernel
theorem dL_law_8 : decode cL_law 8 = .ok (.new 19, 3) := by decide +kernel
theorem dL_law_11 : decode cL_law 11 = .ok (.dup, 1) := by decide +kernel
theorem dL_law_12 : decode cL_law 12 = .ok (.invokespecial 21, 3) := by decide +kernel
theorem dL_law_15 : decode cL_law 15 = .ok (.astore_n 2, 1) := by decide +kernel
theorem dL_law_16 : decode cL_law 16 = .ok (.iconst 1, 1) := by decide +kernel
theorem dL_law_17 : decode cL_law 17 = .ok (.newarray .long, 2) := by decide +kernel
theorem dL_law_19 : decode cL_law 19 = .ok (.astore_n 3, 1) := by decide +kernel
theorem dL_law_20 : decode cL_law 20 = .ok (.iconst 0, 1) := by decide +kernel
theorem dL_law_21 : decode cL_law 21 = .ok (.istore 4, 2) := by decide +kernel
theorem dL_law_23 : decode cL_law 23 = .ok (.iload 4, 2) := by decide +kernel
theorem dL_law_25 : decode cL_law 25 = .ok (.aload_n 0, 1) := by decide +kernel
theorem dL_law_26 : decode cL_law 26 = .ok (.arraylength, 1) := by decide +kernel
theorem dL_law_27 : decode cL_law 27 = .ok (.bipush 6, 2) := by decide +kernel
theorem dL_law_29 : decode cL_law 29 = .ok (.isub, 1) := by decide +kernel
theorem dL_law_30 : decode cL_law 30 = .ok (.if_icmp .gt 1277, 3) := by decide +kernel
theorem dL_law_33 : decode cL_law 33 = .ok (.aload_n 0, 1) := by decide +kernel
theorem dL_law_34 : decode cL_law 34 = .ok (.iload 4, 2) := by decide +kernel
theorem dL_law_36 : decode cL_law 36 = .ok (.iaload, 1) := by decide +kernel
theorem dL_law_37 : decode cL_law 37 = .ok (.bipush 31, 2) := by decide +kernel
theorem dL_law_39 : decode cL_law 39 = .ok (.iand, 1) := by decide +kernel
theorem dL_law_40 : decode cL_law 40 = .ok (.tableswitch 1261 0 30 #[140, 213, 238, 275, 300, 353, 378, 403, 440, 477, 545, 594, 631, 656, 681, 718, 786, 811, 836, 849, 874, 899, 924, 961, 998, 1035, 1084, 1145, 1170, 1183, 1236], 140) := by decide +kernel
theorem dL_law_180 : decode cL_law 180 = .ok (.aload_n 1, 1) := by decide +kernel
theorem dL_law_181 : decode cL_law 181 = .ok (.aload_n 0, 1) := by decide +kernel
theorem dL_law_182 : decode cL_law 182 = .ok (.iload 4, 2) := by decide +kernel
theorem dL_law_184 : decode cL_law 184 = .ok (.iconst 1, 1) := by decide +kernel
theorem dL_law_185 : decode cL_law 185 = .ok (.iadd, 1) := by decide +kernel
theorem dL_law_186 : decode cL_law 186 = .ok (.iaload, 1) := by decide +kernel
theorem dL_law_187 : decode cL_law 187 = .ok (.aload_n 0, 1) := by decide +kernel
theorem dL_law_188 : decode cL_law 188 = .ok (.iload 4, 2) := by decide +kernel
theorem dL_law_190 : decode cL_law 190 = .ok (.iconst 2, 1) := by decide +kernel
theorem dL_law_191 : decode cL_law 191 = .ok (.iadd, 1) := by decide +kernel
theorem dL_law_192 : decode cL_law 192 = .ok (.iaload, 1) := by decide +kernel
theorem dL_law_193 : decode cL_law 193 = .ok (.aload_n 0, 1) := by decide +kernel
theorem dL_law_194 : decode cL_law 194 = .ok (.iload 4, 2) := by decide +kernel
theorem dL_law_196 : decode cL_law 196 = .ok (.iconst 3, 1) := by decide +kernel
theorem dL_law_197 : decode cL_law 197 = .ok (.iadd, 1) := by decide +kernel
theorem dL_law_198 : decode cL_law 198 = .ok (.iaload, 1) := by decide +kernel
theorem dL_law_199 : decode cL_law 199 = .ok (.aload_n 0, 1) := by decide +kernel
theorem dL_law_200 : decode cL_law 200 = .ok (.iload 4, 2) := by decide +kernel
theorem dL_law_202 : decode cL_law 202 = .ok (.iconst 4, 1) := by decide +kernel
theorem dL_law_203 : decode cL_law 203 = .ok (.iadd, 1) := by decide +kernel
theorem dL_law_204 : decode cL_law 204 = .ok (.iaload, 1) := by decide +kernel
theorem dL_law_205 : decode cL_law 205 = .ok (.aload_n 0, 1) := by decide +kernel
theorem dL_law_206 : decode cL_law 206 = .ok (.iload 4, 2) := by decide +kernel
theorem dL_law_208 : decode cL_law 208 = .ok (.iconst 5, 1) := by decide +kernel
theorem dL_law_209 : decode cL_law 209 = .ok (.iadd, 1) := by decide +kernel
theorem dL_law_210 : decode cL_law 210 = .ok (.iaload, 1) := by decide +kernel
theorem dL_law_211 : decode cL_law 211 = .ok (.invokevirtual 22, 3) := by decide +kernel
theorem dL_law_214 : decode cL_law 214 = .ok (.aload_n 2, 1) := by decide +kernel
theorem dL_law_215 : decode cL_law 215 = .ok (.aload_n 0, 1) := by decide +kernel
theorem dL_law_216 : decode cL_law 216 = .ok (.iload 4, 2) := by decide +kernel
theorem dL_law_218 : decode cL_law 218 = .ok (.iconst 1, 1) := by decide +kernel
theorem dL_law_219 : decode cL_law 219 = .ok (.iadd, 1) := by decide +kernel
theorem dL_law_220 : decode cL_law 220 = .ok (.iaload, 1) := by decide +kernel
theorem dL_law_221 : decode cL_law 221 = .ok (.aload_n 0, 1) := by decide +kernel
theorem dL_law_222 : decode cL_law 222 = .ok (.iload 4, 2) := by decide +kernel
theorem dL_law_224 : decode cL_law 224 = .ok (.iconst 2, 1) := by decide +kernel
theorem dL_law_225 : decode cL_law 225 = .ok (.iadd, 1) := by decide +kernel
theorem dL_law_226 : decode cL_law 226 = .ok (.iaload, 1) := by decide +kernel
theorem dL_law_227 : decode cL_law 227 = .ok (.aload_n 0, 1) := by decide +kernel
theorem dL_law_228 : decode cL_law 228 = .ok (.iload 4, 2) := by decide +kernel
theorem dL_law_230 : decode cL_law 230 = .ok (.iconst 3, 1) := by decide +kernel
theorem dL_law_231 : decode cL_law 231 = .ok (.iadd, 1) := by decide +kernel
theorem dL_law_232 : decode cL_law 232 = .ok (.iaload, 1) := by decide +kernel
theorem dL_law_233 : decode cL_law 233 = .ok (.aload_n 0, 1) := by decide +kernel
theorem dL_law_234 : decode cL_law 234 = .ok (.iload 4, 2) := by decide +kernel
theorem dL_law_236 : decode cL_law 236 = .ok (.iconst 4, 1) := by decide +kernel
theorem dL_law_237 : decode cL_law 237 = .ok (.iadd, 1) := by decide +kernel
theorem dL_law_238 : decode cL_law 238 = .ok (.iaload, 1) := by decide +kernel
theorem dL_law_239 : decode cL_law 239 = .ok (.aload_n 0, 1) := by decide +kernel
theorem dL_law_240 : decode cL_law 240 = .ok (.iload 4, 2) := by decide +kernel
theorem dL_law_242 : decode cL_law 242 = .ok (.iconst 5, 1) := by decide +kernel
theorem dL_law_243 : decode cL_law 243 = .ok (.iadd, 1) := by decide +kernel
theorem dL_law_244 : decode cL_law 244 = .ok (.iaload, 1) := by decide +kernel
theorem dL_law_245 : decode cL_law 245 = .ok (.invokevirtual 26, 3) := by decide +kernel
theorem dL_law_248 : decode cL_law 248 = .ok (.if_icmp .eq 1053, 3) := by decide +kernel
theorem dL_law_251 : decode cL_law 251 = .ok (.iconst 0, 1) := by decide +kernel
theorem dL_law_252 : decode cL_law 252 = .ok (.ireturn, 1) := by decide +kernel
theorem dL_law_253 : decode cL_law 253 = .ok (.aload_n 1, 1) := by decide +kernel
theorem dL_law_254 : decode cL_law 254 = .ok (.aload_n 0, 1) := by decide +kernel
theorem dL_law_255 : decode cL_law 255 = .ok (.iload 4, 2) := by decide +kernel
theorem dL_law_257 : decode cL_law 257 = .ok (.iconst 1, 1) := by decide +kernel
theorem dL_law_258 : decode cL_law 258 = .ok (.iadd, 1) := by decide +kernel
theorem dL_law_259 : decode cL_law 259 = .ok (.iaload, 1) := by decide +kernel
theorem dL_law_260 : decode cL_law 260 = .ok (.invokevirtual 27, 3) := by decide +kernel
theorem dL_law_263 : decode cL_law 263 = .ok (.aload_n 2, 1) := by decide +kernel
theorem dL_law_264 : decode cL_law 264 = .ok (.aload_n 0, 1) := by decide +kernel
theorem dL_law_265 : decode cL_law 265 = .ok (.iload 4, 2) := by decide +kernel
theorem dL_law_267 : decode cL_law 267 = .ok (.iconst 1, 1) := by decide +kernel
theorem dL_law_268 : decode cL_law 268 = .ok (.iadd, 1) := by decide +kernel
theorem dL_law_269 : decode cL_law 269 = .ok (.iaload, 1) := by decide +kernel
theorem dL_law_270 : decode cL_law 270 = .ok (.invokevirtual 31, 3) := by decide +kernel
theorem dL_law_273 : decode cL_law 273 = .ok (.if_icmp .eq 1028, 3) := by decide +kernel
theorem dL_law_276 : decode cL_law 276 = .ok (.iconst 0, 1) := by decide +kernel
theorem dL_law_277 : decode cL_law 277 = .ok (.ireturn, 1) := by decide +kernel
theorem dL_law_278 : decode cL_law 278 = .ok (.aload_n 1, 1) := by decide +kernel
theorem dL_law_279 : decode cL_law 279 = .ok (.aload_n 0, 1) := by decide +kernel
theorem dL_law_280 : decode cL_law 280 = .ok (.iload 4, 2) := by decide +kernel
theorem dL_law_282 : decode cL_law 282 = .ok (.iconst 1, 1) := by decide +kernel
theorem dL_law_283 : decode cL_law 283 = .ok (.iadd, 1) := by decide +kernel
theorem dL_law_284 : decode cL_law 284 = .ok (.iaload, 1) := by decide +kernel
theorem dL_law_285 : decode cL_law 285 = .ok (.aload_n 0, 1) := by decide +kernel
theorem dL_law_286 : decode cL_law 286 = .ok (.iload 4, 2) := by decide +kernel
theorem dL_law_288 : decode cL_law 288 = .ok (.iconst 2, 1) := by decide +kernel
theorem dL_law_289 : decode cL_law 289 = .ok (.iadd, 1) := by decide +kernel
theorem dL_law_290 : decode cL_law 290 = .ok (.iaload, 1) := by decide +kernel
theorem dL_law_291 : decode cL_law 291 = .ok (.invokevirtual 32, 3) := by decide +kernel
theorem dL_law_294 : decode cL_law 294 = .ok (.aload_n 2, 1) := by decide +kernel
theorem dL_law_295 : decode cL_law 295 = .ok (.aload_n 0, 1) := by decide +kernel
theorem dL_law_296 : decode cL_law 296 = .ok (.iload 4, 2) := by decide +kernel
theorem dL_law_298 : decode cL_law 298 = .ok (.iconst 1, 1) := by decide +kernel
theorem dL_law_299 : decode cL_law 299 = .ok (.iadd, 1) := by decide +kernel
theorem dL_law_300 : decode cL_law 300 = .ok (.iaload, 1) := by decide +kernel
theorem dL_law_301 : decode cL_law 301 = .ok (.aload_n 0, 1) := by decide +kernel
theorem dL_law_302 : decode cL_law 302 = .ok (.iload 4, 2) := by decide +kernel
theorem dL_law_304 : decode cL_law 304 = .ok (.iconst 2, 1) := by decide +kernel
theorem dL_law_305 : decode cL_law 305 = .ok (.iadd, 1) := by decide +kernel
theorem dL_law_306 : decode cL_law 306 = .ok (.iaload, 1) := by decide +kernel
theorem dL_law_307 : decode cL_law 307 = .ok (.invokevirtual 35, 3) := by decide +kernel
theorem dL_law_310 : decode cL_law 310 = .ok (.if_icmp .eq 991, 3) := by decide +kernel
theorem dL_law_313 : decode cL_law 313 = .ok (.iconst 0, 1) := by decide +kernel
theorem dL_law_314 : decode cL_law 314 = .ok (.ireturn, 1) := by decide +kernel
theorem dL_law_315 : decode cL_law 315 = .ok (.aload_n 1, 1) := by decide +kernel
theorem dL_law_316 : decode cL_law 316 = .ok (.aload_n 0, 1) := by decide +kernel
theorem dL_law_317 : decode cL_law 317 = .ok (.iload 4, 2) := by decide +kernel
theorem dL_law_319 : decode cL_law 319 = .ok (.iconst 1, 1) := by decide +kernel
theorem dL_law_320 : decode cL_law 320 = .ok (.iadd, 1) := by decide +kernel
theorem dL_law_321 : decode cL_law 321 = .ok (.iaload, 1) := by decide +kernel
theorem dL_law_322 : decode cL_law 322 = .ok (.invokevirtual 36, 3) := by decide +kernel
theorem dL_law_325 : decode cL_law 325 = .ok (.aload_n 2, 1) := by decide +kernel
theorem dL_law_326 : decode cL_law 326 = .ok (.aload_n 0, 1) := by decide +kernel
theorem dL_law_327 : decode cL_law 327 = .ok (.iload 4, 2) := by decide +kernel
theorem dL_law_329 : decode cL_law 329 = .ok (.iconst 1, 1) := by decide +kernel
theorem dL_law_330 : decode cL_law 330 = .ok (.iadd, 1) := by decide +kernel
theorem dL_law_331 : decode cL_law 331 = .ok (.iaload, 1) := by decide +kernel
theorem dL_law_332 : decode cL_law 332 = .ok (.invokevirtual 39, 3) := by decide +kernel
theorem dL_law_335 : decode cL_law 335 = .ok (.if_icmp .eq 966, 3) := by decide +kernel
theorem dL_law_338 : decode cL_law 338 = .ok (.iconst 0, 1) := by decide +kernel
theorem dL_law_339 : decode cL_law 339 = .ok (.ireturn, 1) := by decide +kernel
theorem dL_law_340 : decode cL_law 340 = .ok (.aload_n 1, 1) := by decide +kernel
theorem dL_law_341 : decode cL_law 341 = .ok (.aload_n 0, 1) := by decide +kernel
theorem dL_law_342 : decode cL_law 342 = .ok (.iload 4, 2) := by decide +kernel
theorem dL_law_344 : decode cL_law 344 = .ok (.iconst 1, 1) := by decide +kernel
theorem dL_law_345 : decode cL_law 345 = .ok (.iadd, 1) := by decide +kernel
theorem dL_law_346 : decode cL_law 346 = .ok (.iaload, 1) := by decide +kernel
theorem dL_law_347 : decode cL_law 347 = .ok (.aload_n 0, 1) := by decide +kernel
theorem dL_law_348 : decode cL_law 348 = .ok (.iload 4, 2) := by decide +kernel
theorem dL_law_350 : decode cL_law 350 = .ok (.iconst 2, 1) := by decide +kernel
theorem dL_law_351 : decode cL_law 351 = .ok (.iadd, 1) := by decide +kernel
theorem dL_law_352 : decode cL_law 352 = .ok (.iaload, 1) := by decide +kernel
theorem dL_law_353 : decode cL_law 353 = .ok (.ifCond .eq 7, 3) := by decide +kernel
theorem dL_law_356 : decode cL_law 356 = .ok (.iconst 1, 1) := by decide +kernel
theorem dL_law_357 : decode cL_law 357 = .ok (.goto 4, 3) := by decide +kernel
theorem dL_law_360 : decode cL_law 360 = .ok (.iconst 0, 1) := by decide +kernel
theorem dL_law_361 : decode cL_law 361 = .ok (.invokevirtual 40, 3) := by decide +kernel
theorem dL_law_364 : decode cL_law 364 = .ok (.aload_n 2, 1) := by decide +kernel
theorem dL_law_365 : decode cL_law 365 = .ok (.aload_n 0, 1) := by decide +kernel
theorem dL_law_366 : decode cL_law 366 = .ok (.iload 4, 2) := by decide +kernel
theorem dL_law_368 : decode cL_law 368 = .ok (.iconst 1, 1) := by decide +kernel
theorem dL_law_369 : decode cL_law 369 = .ok (.iadd, 1) := by decide +kernel
theorem dL_law_370 : decode cL_law 370 = .ok (.iaload, 1) := by decide +kernel
theorem dL_law_371 : decode cL_law 371 = .ok (.aload_n 0, 1) := by decide +kernel
theorem dL_law_372 : decode cL_law 372 = .ok (.iload 4, 2) := by decide +kernel
theorem dL_law_374 : decode cL_law 374 = .ok (.iconst 2, 1) := by decide +kernel
theorem dL_law_375 : decode cL_law 375 = .ok (.iadd, 1) := by decide +kernel
theorem dL_law_376 : decode cL_law 376 = .ok (.iaload, 1) := by decide +kernel
theorem dL_law_377 : decode cL_law 377 = .ok (.ifCond .eq 7, 3) := by decide +kernel
theorem dL_law_380 : decode cL_law 380 = .ok (.iconst 1, 1) := by decide +kernel
theorem dL_law_381 : decode cL_law 381 = .ok (.goto 4, 3) := by decide +kernel
theorem dL_law_384 : decode cL_law 384 = .ok (.iconst 0, 1) := by decide +kernel
theorem dL_law_385 : decode cL_law 385 = .ok (.invokevirtual 44, 3) := by decide +kernel
theorem dL_law_388 : decode cL_law 388 = .ok (.if_icmp .eq 913, 3) := by decide +kernel
theorem dL_law_391 : decode cL_law 391 = .ok (.iconst 0, 1) := by decide +kernel
theorem dL_law_392 : decode cL_law 392 = .ok (.ireturn, 1) := by decide +kernel
theorem dL_law_393 : decode cL_law 393 = .ok (.aload_n 1, 1) := by decide +kernel
theorem dL_law_394 : decode cL_law 394 = .ok (.aload_n 0, 1) := by decide +kernel
theorem dL_law_395 : decode cL_law 395 = .ok (.iload 4, 2) := by decide +kernel
theorem dL_law_397 : decode cL_law 397 = .ok (.iconst 1, 1) := by decide +kernel
theorem dL_law_398 : decode cL_law 398 = .ok (.iadd, 1) := by decide +kernel
theorem dL_law_399 : decode cL_law 399 = .ok (.iaload, 1) := by decide +kernel
theorem dL_law_400 : decode cL_law 400 = .ok (.invokevirtual 45, 3) := by decide +kernel
theorem dL_law_403 : decode cL_law 403 = .ok (.aload_n 2, 1) := by decide +kernel
theorem dL_law_404 : decode cL_law 404 = .ok (.aload_n 0, 1) := by decide +kernel
theorem dL_law_405 : decode cL_law 405 = .ok (.iload 4, 2) := by decide +kernel
theorem dL_law_407 : decode cL_law 407 = .ok (.iconst 1, 1) := by decide +kernel
theorem dL_law_408 : decode cL_law 408 = .ok (.iadd, 1) := by decide +kernel
theorem dL_law_409 : decode cL_law 409 = .ok (.iaload, 1) := by decide +kernel
theorem dL_law_410 : decode cL_law 410 = .ok (.invokevirtual 48, 3) := by decide +kernel
theorem dL_law_413 : decode cL_law 413 = .ok (.if_icmp .eq 888, 3) := by decide +kernel
theorem dL_law_416 : decode cL_law 416 = .ok (.iconst 0, 1) := by decide +kernel
theorem dL_law_417 : decode cL_law 417 = .ok (.ireturn, 1) := by decide +kernel
theorem dL_law_418 : decode cL_law 418 = .ok (.aload_n 1, 1) := by decide +kernel
theorem dL_law_419 : decode cL_law 419 = .ok (.aload_n 0, 1) := by decide +kernel
theorem dL_law_420 : decode cL_law 420 = .ok (.iload 4, 2) := by decide +kernel
theorem dL_law_422 : decode cL_law 422 = .ok (.iconst 1, 1) := by decide +kernel
theorem dL_law_423 : decode cL_law 423 = .ok (.iadd, 1) := by decide +kernel
theorem dL_law_424 : decode cL_law 424 = .ok (.iaload, 1) := by decide +kernel
theorem dL_law_425 : decode cL_law 425 = .ok (.invokevirtual 49, 3) := by decide +kernel
theorem dL_law_428 : decode cL_law 428 = .ok (.aload_n 2, 1) := by decide +kernel
theorem dL_law_429 : decode cL_law 429 = .ok (.aload_n 0, 1) := by decide +kernel
theorem dL_law_430 : decode cL_law 430 = .ok (.iload 4, 2) := by decide +kernel
theorem dL_law_432 : decode cL_law 432 = .ok (.iconst 1, 1) := by decide +kernel
theorem dL_law_433 : decode cL_law 433 = .ok (.iadd, 1) := by decide +kernel
theorem dL_law_434 : decode cL_law 434 = .ok (.iaload, 1) := by decide +kernel
theorem dL_law_435 : decode cL_law 435 = .ok (.invokevirtual 52, 3) := by decide +kernel
theorem dL_law_438 : decode cL_law 438 = .ok (.if_icmp .eq 863, 3) := by decide +kernel
theorem dL_law_441 : decode cL_law 441 = .ok (.iconst 0, 1) := by decide +kernel
theorem dL_law_442 : decode cL_law 442 = .ok (.ireturn, 1) := by decide +kernel
theorem dL_law_443 : decode cL_law 443 = .ok (.aload_n 1, 1) := by decide +kernel
theorem dL_law_444 : decode cL_law 444 = .ok (.aload_n 0, 1) := by decide +kernel
theorem dL_law_445 : decode cL_law 445 = .ok (.iload 4, 2) := by decide +kernel
theorem dL_law_447 : decode cL_law 447 = .ok (.iconst 1, 1) := by decide +kernel
theorem dL_law_448 : decode cL_law 448 = .ok (.iadd, 1) := by decide +kernel
theorem dL_law_449 : decode cL_law 449 = .ok (.iaload, 1) := by decide +kernel
theorem dL_law_450 : decode cL_law 450 = .ok (.aload_n 0, 1) := by decide +kernel
theorem dL_law_451 : decode cL_law 451 = .ok (.iload 4, 2) := by decide +kernel
theorem dL_law_453 : decode cL_law 453 = .ok (.iconst 2, 1) := by decide +kernel
theorem dL_law_454 : decode cL_law 454 = .ok (.iadd, 1) := by decide +kernel
theorem dL_law_455 : decode cL_law 455 = .ok (.iaload, 1) := by decide +kernel
theorem dL_law_456 : decode cL_law 456 = .ok (.invokevirtual 53, 3) := by decide +kernel
theorem dL_law_459 : decode cL_law 459 = .ok (.aload_n 2, 1) := by decide +kernel
theorem dL_law_460 : decode cL_law 460 = .ok (.aload_n 0, 1) := by decide +kernel
theorem dL_law_461 : decode cL_law 461 = .ok (.iload 4, 2) := by decide +kernel
theorem dL_law_463 : decode cL_law 463 = .ok (.iconst 1, 1) := by decide +kernel
theorem dL_law_464 : decode cL_law 464 = .ok (.iadd, 1) := by decide +kernel
theorem dL_law_465 : decode cL_law 465 = .ok (.iaload, 1) := by decide +kernel
theorem dL_law_466 : decode cL_law 466 = .ok (.aload_n 0, 1) := by decide +kernel
theorem dL_law_467 : decode cL_law 467 = .ok (.iload 4, 2) := by decide +kernel
theorem dL_law_469 : decode cL_law 469 = .ok (.iconst 2, 1) := by decide +kernel
theorem dL_law_470 : decode cL_law 470 = .ok (.iadd, 1) := by decide +kernel
theorem dL_law_471 : decode cL_law 471 = .ok (.iaload, 1) := by decide +kernel
theorem dL_law_472 : decode cL_law 472 = .ok (.invokevirtual 56, 3) := by decide +kernel
theorem dL_law_475 : decode cL_law 475 = .ok (.if_icmp .eq 826, 3) := by decide +kernel
theorem dL_law_478 : decode cL_law 478 = .ok (.iconst 0, 1) := by decide +kernel
theorem dL_law_479 : decode cL_law 479 = .ok (.ireturn, 1) := by decide +kernel
theorem dL_law_480 : decode cL_law 480 = .ok (.aload_n 1, 1) := by decide +kernel
theorem dL_law_481 : decode cL_law 481 = .ok (.aload_n 0, 1) := by decide +kernel
theorem dL_law_482 : decode cL_law 482 = .ok (.iload 4, 2) := by decide +kernel
theorem dL_law_484 : decode cL_law 484 = .ok (.iconst 1, 1) := by decide +kernel
theorem dL_law_485 : decode cL_law 485 = .ok (.iadd, 1) := by decide +kernel
theorem dL_law_486 : decode cL_law 486 = .ok (.iaload, 1) := by decide +kernel
theorem dL_law_487 : decode cL_law 487 = .ok (.aload_n 0, 1) := by decide +kernel
theorem dL_law_488 : decode cL_law 488 = .ok (.iload 4, 2) := by decide +kernel
theorem dL_law_490 : decode cL_law 490 = .ok (.iconst 2, 1) := by decide +kernel
theorem dL_law_491 : decode cL_law 491 = .ok (.iadd, 1) := by decide +kernel
theorem dL_law_492 : decode cL_law 492 = .ok (.iaload, 1) := by decide +kernel
theorem dL_law_493 : decode cL_law 493 = .ok (.invokevirtual 57, 3) := by decide +kernel
theorem dL_law_496 : decode cL_law 496 = .ok (.aload_n 2, 1) := by decide +kernel
theorem dL_law_497 : decode cL_law 497 = .ok (.aload_n 0, 1) := by decide +kernel
theorem dL_law_498 : decode cL_law 498 = .ok (.iload 4, 2) := by decide +kernel
theorem dL_law_500 : decode cL_law 500 = .ok (.iconst 1, 1) := by decide +kernel
theorem dL_law_501 : decode cL_law 501 = .ok (.iadd, 1) := by decide +kernel
theorem dL_law_502 : decode cL_law 502 = .ok (.iaload, 1) := by decide +kernel
theorem dL_law_503 : decode cL_law 503 = .ok (.aload_n 0, 1) := by decide +kernel
theorem dL_law_504 : decode cL_law 504 = .ok (.iload 4, 2) := by decide +kernel
theorem dL_law_506 : decode cL_law 506 = .ok (.iconst 2, 1) := by decide +kernel
theorem dL_law_507 : decode cL_law 507 = .ok (.iadd, 1) := by decide +kernel
theorem dL_law_508 : decode cL_law 508 = .ok (.iaload, 1) := by decide +kernel
theorem dL_law_509 : decode cL_law 509 = .ok (.invokevirtual 60, 3) := by decide +kernel
theorem dL_law_512 : decode cL_law 512 = .ok (.if_icmp .eq 789, 3) := by decide +kernel
theorem dL_law_515 : decode cL_law 515 = .ok (.iconst 0, 1) := by decide +kernel
theorem dL_law_516 : decode cL_law 516 = .ok (.ireturn, 1) := by decide +kernel
theorem dL_law_517 : decode cL_law 517 = .ok (.aload_n 1, 1) := by decide +kernel
theorem dL_law_518 : decode cL_law 518 = .ok (.aload_n 0, 1) := by decide +kernel
theorem dL_law_519 : decode cL_law 519 = .ok (.iload 4, 2) := by decide +kernel
theorem dL_law_521 : decode cL_law 521 = .ok (.iconst 1, 1) := by decide +kernel
theorem dL_law_522 : decode cL_law 522 = .ok (.iadd, 1) := by decide +kernel
theorem dL_law_523 : decode cL_law 523 = .ok (.iaload, 1) := by decide +kernel
theorem dL_law_524 : decode cL_law 524 = .ok (.aload_n 0, 1) := by decide +kernel
theorem dL_law_525 : decode cL_law 525 = .ok (.iload 4, 2) := by decide +kernel
theorem dL_law_527 : decode cL_law 527 = .ok (.iconst 2, 1) := by decide +kernel
theorem dL_law_528 : decode cL_law 528 = .ok (.iadd, 1) := by decide +kernel
theorem dL_law_529 : decode cL_law 529 = .ok (.iaload, 1) := by decide +kernel
theorem dL_law_530 : decode cL_law 530 = .ok (.aload_n 3, 1) := by decide +kernel
theorem dL_law_531 : decode cL_law 531 = .ok (.invokestatic 61, 3) := by decide +kernel
theorem dL_law_534 : decode cL_law 534 = .ok (.istore 5, 2) := by decide +kernel
theorem dL_law_536 : decode cL_law 536 = .ok (.aload_n 2, 1) := by decide +kernel
theorem dL_law_537 : decode cL_law 537 = .ok (.aload_n 0, 1) := by decide +kernel
theorem dL_law_538 : decode cL_law 538 = .ok (.iload 4, 2) := by decide +kernel
theorem dL_law_540 : decode cL_law 540 = .ok (.iconst 1, 1) := by decide +kernel
theorem dL_law_541 : decode cL_law 541 = .ok (.iadd, 1) := by decide +kernel
theorem dL_law_542 : decode cL_law 542 = .ok (.iaload, 1) := by decide +kernel
theorem dL_law_543 : decode cL_law 543 = .ok (.aload_n 0, 1) := by decide +kernel
theorem dL_law_544 : decode cL_law 544 = .ok (.iload 4, 2) := by decide +kernel
theorem dL_law_546 : decode cL_law 546 = .ok (.iconst 2, 1) := by decide +kernel
theorem dL_law_547 : decode cL_law 547 = .ok (.iadd, 1) := by decide +kernel
theorem dL_law_548 : decode cL_law 548 = .ok (.iaload, 1) := by decide +kernel
theorem dL_law_549 : decode cL_law 549 = .ok (.invokevirtual 66, 3) := by decide +kernel
theorem dL_law_552 : decode cL_law 552 = .ok (.istore 6, 2) := by decide +kernel
theorem dL_law_554 : decode cL_law 554 = .ok (.aload_n 2, 1) := by decide +kernel
theorem dL_law_555 : decode cL_law 555 = .ok (.invokevirtual 67, 3) := by decide +kernel
theorem dL_law_558 : decode cL_law 558 = .ok (.iload 5, 2) := by decide +kernel
theorem dL_law_560 : decode cL_law 560 = .ok (.if_icmp .eq 5, 3) := by decide +kernel
theorem dL_law_563 : decode cL_law 563 = .ok (.iconst 0, 1) := by decide +kernel
theorem dL_law_564 : decode cL_law 564 = .ok (.ireturn, 1) := by decide +kernel
theorem dL_law_565 : decode cL_law 565 = .ok (.iload 5, 2) := by decide +kernel
theorem dL_law_567 : decode cL_law 567 = .ok (.ifCond .ne 15, 3) := by decide +kernel
theorem dL_law_570 : decode cL_law 570 = .ok (.aload_n 3, 1) := by decide +kernel
theorem dL_law_571 : decode cL_law 571 = .ok (.iconst 0, 1) := by decide +kernel
theorem dL_law_572 : decode cL_law 572 = .ok (.laload, 1) := by decide +kernel
theorem dL_law_573 : decode cL_law 573 = .ok (.iload 6, 2) := by decide +kernel
theorem dL_law_575 : decode cL_law 575 = .ok (.i2l, 1) := by decide +kernel
theorem dL_law_576 : decode cL_law 576 = .ok (.lcmp, 1) := by decide +kernel
theorem dL_law_577 : decode cL_law 577 = .ok (.ifCond .eq 5, 3) := by decide +kernel
theorem dL_law_580 : decode cL_law 580 = .ok (.iconst 0, 1) := by decide +kernel
theorem dL_law_581 : decode cL_law 581 = .ok (.ireturn, 1) := by decide +kernel
theorem dL_law_582 : decode cL_law 582 = .ok (.goto 719, 3) := by decide +kernel
theorem dL_law_585 : decode cL_law 585 = .ok (.aload_n 1, 1) := by decide +kernel
theorem dL_law_586 : decode cL_law 586 = .ok (.aload_n 0, 1) := by decide +kernel
theorem dL_law_587 : decode cL_law 587 = .ok (.iload 4, 2) := by decide +kernel
theorem dL_law_589 : decode cL_law 589 = .ok (.iconst 1, 1) := by decide +kernel
theorem dL_law_590 : decode cL_law 590 = .ok (.iadd, 1) := by decide +kernel
theorem dL_law_591 : decode cL_law 591 = .ok (.iaload, 1) := by decide +kernel
theorem dL_law_592 : decode cL_law 592 = .ok (.aload_n 0, 1) := by decide +kernel
theorem dL_law_593 : decode cL_law 593 = .ok (.iload 4, 2) := by decide +kernel
theorem dL_law_595 : decode cL_law 595 = .ok (.iconst 2, 1) := by decide +kernel
theorem dL_law_596 : decode cL_law 596 = .ok (.iadd, 1) := by decide +kernel
theorem dL_law_597 : decode cL_law 597 = .ok (.iaload, 1) := by decide +kernel
theorem dL_law_598 : decode cL_law 598 = .ok (.aload_n 0, 1) := by decide +kernel
theorem dL_law_599 : decode cL_law 599 = .ok (.iload 4, 2) := by decide +kernel
theorem dL_law_601 : decode cL_law 601 = .ok (.iconst 3, 1) := by decide +kernel
theorem dL_law_602 : decode cL_law 602 = .ok (.iadd, 1) := by decide +kernel
theorem dL_law_603 : decode cL_law 603 = .ok (.iaload, 1) := by decide +kernel
theorem dL_law_604 : decode cL_law 604 = .ok (.invokevirtual 71, 3) := by decide +kernel
theorem dL_law_607 : decode cL_law 607 = .ok (.aload_n 2, 1) := by decide +kernel
theorem dL_law_608 : decode cL_law 608 = .ok (.aload_n 0, 1) := by decide +kernel
theorem dL_law_609 : decode cL_law 609 = .ok (.iload 4, 2) := by decide +kernel
theorem dL_law_611 : decode cL_law 611 = .ok (.iconst 1, 1) := by decide +kernel
theorem dL_law_612 : decode cL_law 612 = .ok (.iadd, 1) := by decide +kernel
theorem dL_law_613 : decode cL_law 613 = .ok (.iaload, 1) := by decide +kernel
theorem dL_law_614 : decode cL_law 614 = .ok (.aload_n 0, 1) := by decide +kernel
theorem dL_law_615 : decode cL_law 615 = .ok (.iload 4, 2) := by decide +kernel
theorem dL_law_617 : decode cL_law 617 = .ok (.iconst 2, 1) := by decide +kernel
theorem dL_law_618 : decode cL_law 618 = .ok (.iadd, 1) := by decide +kernel
theorem dL_law_619 : decode cL_law 619 = .ok (.iaload, 1) := by decide +kernel
theorem dL_law_620 : decode cL_law 620 = .ok (.aload_n 0, 1) := by decide +kernel
theorem dL_law_621 : decode cL_law 621 = .ok (.iload 4, 2) := by decide +kernel
theorem dL_law_623 : decode cL_law 623 = .ok (.iconst 3, 1) := by decide +kernel
theorem dL_law_624 : decode cL_law 624 = .ok (.iadd, 1) := by decide +kernel
theorem dL_law_625 : decode cL_law 625 = .ok (.iaload, 1) := by decide +kernel
theorem dL_law_626 : decode cL_law 626 = .ok (.invokevirtual 75, 3) := by decide +kernel
theorem dL_law_629 : decode cL_law 629 = .ok (.if_icmp .eq 672, 3) := by decide +kernel
theorem dL_law_632 : decode cL_law 632 = .ok (.iconst 0, 1) := by decide +kernel
theorem dL_law_633 : decode cL_law 633 = .ok (.ireturn, 1) := by decide +kernel
theorem dL_law_634 : decode cL_law 634 = .ok (.aload_n 1, 1) := by decide +kernel
theorem dL_law_635 : decode cL_law 635 = .ok (.aload_n 0, 1) := by decide +kernel
theorem dL_law_636 : decode cL_law 636 = .ok (.iload 4, 2) := by decide +kernel
theorem dL_law_638 : decode cL_law 638 = .ok (.iconst 1, 1) := by decide +kernel
theorem dL_law_639 : decode cL_law 639 = .ok (.iadd, 1) := by decide +kernel
theorem dL_law_640 : decode cL_law 640 = .ok (.iaload, 1) := by decide +kernel
theorem dL_law_641 : decode cL_law 641 = .ok (.aload_n 0, 1) := by decide +kernel
theorem dL_law_642 : decode cL_law 642 = .ok (.iload 4, 2) := by decide +kernel
theorem dL_law_644 : decode cL_law 644 = .ok (.iconst 2, 1) := by decide +kernel
theorem dL_law_645 : decode cL_law 645 = .ok (.iadd, 1) := by decide +kernel
theorem dL_law_646 : decode cL_law 646 = .ok (.iaload, 1) := by decide +kernel
theorem dL_law_647 : decode cL_law 647 = .ok (.invokevirtual 76, 3) := by decide +kernel
theorem dL_law_650 : decode cL_law 650 = .ok (.aload_n 2, 1) := by decide +kernel
theorem dL_law_651 : decode cL_law 651 = .ok (.aload_n 0, 1) := by decide +kernel
theorem dL_law_652 : decode cL_law 652 = .ok (.iload 4, 2) := by decide +kernel
theorem dL_law_654 : decode cL_law 654 = .ok (.iconst 1, 1) := by decide +kernel
theorem dL_law_655 : decode cL_law 655 = .ok (.iadd, 1) := by decide +kernel
theorem dL_law_656 : decode cL_law 656 = .ok (.iaload, 1) := by decide +kernel
theorem dL_law_657 : decode cL_law 657 = .ok (.aload_n 0, 1) := by decide +kernel
theorem dL_law_658 : decode cL_law 658 = .ok (.iload 4, 2) := by decide +kernel
theorem dL_law_660 : decode cL_law 660 = .ok (.iconst 2, 1) := by decide +kernel
theorem dL_law_661 : decode cL_law 661 = .ok (.iadd, 1) := by decide +kernel
theorem dL_law_662 : decode cL_law 662 = .ok (.iaload, 1) := by decide +kernel
theorem dL_law_663 : decode cL_law 663 = .ok (.invokevirtual 79, 3) := by decide +kernel
theorem dL_law_666 : decode cL_law 666 = .ok (.if_icmp .eq 635, 3) := by decide +kernel
theorem dL_law_669 : decode cL_law 669 = .ok (.iconst 0, 1) := by decide +kernel
theorem dL_law_670 : decode cL_law 670 = .ok (.ireturn, 1) := by decide +kernel
theorem dL_law_671 : decode cL_law 671 = .ok (.aload_n 1, 1) := by decide +kernel
theorem dL_law_672 : decode cL_law 672 = .ok (.aload_n 0, 1) := by decide +kernel
theorem dL_law_673 : decode cL_law 673 = .ok (.iload 4, 2) := by decide +kernel
theorem dL_law_675 : decode cL_law 675 = .ok (.iconst 1, 1) := by decide +kernel
theorem dL_law_676 : decode cL_law 676 = .ok (.iadd, 1) := by decide +kernel
theorem dL_law_677 : decode cL_law 677 = .ok (.iaload, 1) := by decide +kernel
theorem dL_law_678 : decode cL_law 678 = .ok (.invokevirtual 80, 3) := by decide +kernel
theorem dL_law_681 : decode cL_law 681 = .ok (.aload_n 2, 1) := by decide +kernel
theorem dL_law_682 : decode cL_law 682 = .ok (.aload_n 0, 1) := by decide +kernel
theorem dL_law_683 : decode cL_law 683 = .ok (.iload 4, 2) := by decide +kernel
theorem dL_law_685 : decode cL_law 685 = .ok (.iconst 1, 1) := by decide +kernel
theorem dL_law_686 : decode cL_law 686 = .ok (.iadd, 1) := by decide +kernel
theorem dL_law_687 : decode cL_law 687 = .ok (.iaload, 1) := by decide +kernel
theorem dL_law_688 : decode cL_law 688 = .ok (.invokevirtual 83, 3) := by decide +kernel
theorem dL_law_691 : decode cL_law 691 = .ok (.if_icmp .eq 610, 3) := by decide +kernel
theorem dL_law_694 : decode cL_law 694 = .ok (.iconst 0, 1) := by decide +kernel
theorem dL_law_695 : decode cL_law 695 = .ok (.ireturn, 1) := by decide +kernel
theorem dL_law_696 : decode cL_law 696 = .ok (.aload_n 1, 1) := by decide +kernel
theorem dL_law_697 : decode cL_law 697 = .ok (.aload_n 0, 1) := by decide +kernel
theorem dL_law_698 : decode cL_law 698 = .ok (.iload 4, 2) := by decide +kernel
theorem dL_law_700 : decode cL_law 700 = .ok (.iconst 1, 1) := by decide +kernel
theorem dL_law_701 : decode cL_law 701 = .ok (.iadd, 1) := by decide +kernel
theorem dL_law_702 : decode cL_law 702 = .ok (.iaload, 1) := by decide +kernel
theorem dL_law_703 : decode cL_law 703 = .ok (.invokevirtual 84, 3) := by decide +kernel
theorem dL_law_706 : decode cL_law 706 = .ok (.aload_n 2, 1) := by decide +kernel
theorem dL_law_707 : decode cL_law 707 = .ok (.aload_n 0, 1) := by decide +kernel
theorem dL_law_708 : decode cL_law 708 = .ok (.iload 4, 2) := by decide +kernel
theorem dL_law_710 : decode cL_law 710 = .ok (.iconst 1, 1) := by decide +kernel
theorem dL_law_711 : decode cL_law 711 = .ok (.iadd, 1) := by decide +kernel
theorem dL_law_712 : decode cL_law 712 = .ok (.iaload, 1) := by decide +kernel
theorem dL_law_713 : decode cL_law 713 = .ok (.invokevirtual 87, 3) := by decide +kernel
theorem dL_law_716 : decode cL_law 716 = .ok (.if_icmp .eq 585, 3) := by decide +kernel
theorem dL_law_719 : decode cL_law 719 = .ok (.iconst 0, 1) := by decide +kernel
theorem dL_law_720 : decode cL_law 720 = .ok (.ireturn, 1) := by decide +kernel
theorem dL_law_721 : decode cL_law 721 = .ok (.aload_n 1, 1) := by decide +kernel
theorem dL_law_722 : decode cL_law 722 = .ok (.aload_n 0, 1) := by decide +kernel
theorem dL_law_723 : decode cL_law 723 = .ok (.iload 4, 2) := by decide +kernel
theorem dL_law_725 : decode cL_law 725 = .ok (.iconst 1, 1) := by decide +kernel
theorem dL_law_726 : decode cL_law 726 = .ok (.iadd, 1) := by decide +kernel
theorem dL_law_727 : decode cL_law 727 = .ok (.iaload, 1) := by decide +kernel
theorem dL_law_728 : decode cL_law 728 = .ok (.aload_n 0, 1) := by decide +kernel
theorem dL_law_729 : decode cL_law 729 = .ok (.iload 4, 2) := by decide +kernel
theorem dL_law_731 : decode cL_law 731 = .ok (.iconst 2, 1) := by decide +kernel
theorem dL_law_732 : decode cL_law 732 = .ok (.iadd, 1) := by decide +kernel
theorem dL_law_733 : decode cL_law 733 = .ok (.iaload, 1) := by decide +kernel
theorem dL_law_734 : decode cL_law 734 = .ok (.invokevirtual 88, 3) := by decide +kernel
theorem dL_law_737 : decode cL_law 737 = .ok (.aload_n 2, 1) := by decide +kernel
theorem dL_law_738 : decode cL_law 738 = .ok (.aload_n 0, 1) := by decide +kernel
theorem dL_law_739 : decode cL_law 739 = .ok (.iload 4, 2) := by decide +kernel
theorem dL_law_741 : decode cL_law 741 = .ok (.iconst 1, 1) := by decide +kernel
theorem dL_law_742 : decode cL_law 742 = .ok (.iadd, 1) := by decide +kernel
theorem dL_law_743 : decode cL_law 743 = .ok (.iaload, 1) := by decide +kernel
theorem dL_law_744 : decode cL_law 744 = .ok (.aload_n 0, 1) := by decide +kernel
theorem dL_law_745 : decode cL_law 745 = .ok (.iload 4, 2) := by decide +kernel
theorem dL_law_747 : decode cL_law 747 = .ok (.iconst 2, 1) := by decide +kernel
theorem dL_law_748 : decode cL_law 748 = .ok (.iadd, 1) := by decide +kernel
theorem dL_law_749 : decode cL_law 749 = .ok (.iaload, 1) := by decide +kernel
theorem dL_law_750 : decode cL_law 750 = .ok (.invokevirtual 91, 3) := by decide +kernel
theorem dL_law_753 : decode cL_law 753 = .ok (.if_icmp .eq 548, 3) := by decide +kernel
theorem dL_law_756 : decode cL_law 756 = .ok (.iconst 0, 1) := by decide +kernel
theorem dL_law_757 : decode cL_law 757 = .ok (.ireturn, 1) := by decide +kernel
theorem dL_law_758 : decode cL_law 758 = .ok (.aload_n 1, 1) := by decide +kernel
theorem dL_law_759 : decode cL_law 759 = .ok (.aload_n 0, 1) := by decide +kernel
theorem dL_law_760 : decode cL_law 760 = .ok (.iload 4, 2) := by decide +kernel
theorem dL_law_762 : decode cL_law 762 = .ok (.iconst 1, 1) := by decide +kernel
theorem dL_law_763 : decode cL_law 763 = .ok (.iadd, 1) := by decide +kernel
theorem dL_law_764 : decode cL_law 764 = .ok (.iaload, 1) := by decide +kernel
theorem dL_law_765 : decode cL_law 765 = .ok (.aload_n 0, 1) := by decide +kernel
theorem dL_law_766 : decode cL_law 766 = .ok (.iload 4, 2) := by decide +kernel
theorem dL_law_768 : decode cL_law 768 = .ok (.iconst 2, 1) := by decide +kernel
theorem dL_law_769 : decode cL_law 769 = .ok (.iadd, 1) := by decide +kernel
theorem dL_law_770 : decode cL_law 770 = .ok (.iaload, 1) := by decide +kernel
theorem dL_law_771 : decode cL_law 771 = .ok (.aload_n 3, 1) := by decide +kernel
theorem dL_law_772 : decode cL_law 772 = .ok (.invokestatic 92, 3) := by decide +kernel
theorem dL_law_775 : decode cL_law 775 = .ok (.istore 5, 2) := by decide +kernel
theorem dL_law_777 : decode cL_law 777 = .ok (.aload_n 2, 1) := by decide +kernel
theorem dL_law_778 : decode cL_law 778 = .ok (.aload_n 0, 1) := by decide +kernel
theorem dL_law_779 : decode cL_law 779 = .ok (.iload 4, 2) := by decide +kernel
theorem dL_law_781 : decode cL_law 781 = .ok (.iconst 1, 1) := by decide +kernel
theorem dL_law_782 : decode cL_law 782 = .ok (.iadd, 1) := by decide +kernel
theorem dL_law_783 : decode cL_law 783 = .ok (.iaload, 1) := by decide +kernel
theorem dL_law_784 : decode cL_law 784 = .ok (.aload_n 0, 1) := by decide +kernel
theorem dL_law_785 : decode cL_law 785 = .ok (.iload 4, 2) := by decide +kernel
theorem dL_law_787 : decode cL_law 787 = .ok (.iconst 2, 1) := by decide +kernel
theorem dL_law_788 : decode cL_law 788 = .ok (.iadd, 1) := by decide +kernel
theorem dL_law_789 : decode cL_law 789 = .ok (.iaload, 1) := by decide +kernel
theorem dL_law_790 : decode cL_law 790 = .ok (.invokevirtual 94, 3) := by decide +kernel
theorem dL_law_793 : decode cL_law 793 = .ok (.istore 6, 2) := by decide +kernel
theorem dL_law_795 : decode cL_law 795 = .ok (.aload_n 2, 1) := by decide +kernel
theorem dL_law_796 : decode cL_law 796 = .ok (.invokevirtual 67, 3) := by decide +kernel
theorem dL_law_799 : decode cL_law 799 = .ok (.iload 5, 2) := by decide +kernel
theorem dL_law_801 : decode cL_law 801 = .ok (.if_icmp .eq 5, 3) := by decide +kernel
theorem dL_law_804 : decode cL_law 804 = .ok (.iconst 0, 1) := by decide +kernel
theorem dL_law_805 : decode cL_law 805 = .ok (.ireturn, 1) := by decide +kernel
theorem dL_law_806 : decode cL_law 806 = .ok (.iload 5, 2) := by decide +kernel
theorem dL_law_808 : decode cL_law 808 = .ok (.ifCond .ne 15, 3) := by decide +kernel
theorem dL_law_811 : decode cL_law 811 = .ok (.aload_n 3, 1) := by decide +kernel
theorem dL_law_812 : decode cL_law 812 = .ok (.iconst 0, 1) := by decide +kernel
theorem dL_law_813 : decode cL_law 813 = .ok (.laload, 1) := by decide +kernel
theorem dL_law_814 : decode cL_law 814 = .ok (.iload 6, 2) := by decide +kernel
theorem dL_law_816 : decode cL_law 816 = .ok (.i2l, 1) := by decide +kernel
theorem dL_law_817 : decode cL_law 817 = .ok (.lcmp, 1) := by decide +kernel
theorem dL_law_818 : decode cL_law 818 = .ok (.ifCond .eq 5, 3) := by decide +kernel
theorem dL_law_821 : decode cL_law 821 = .ok (.iconst 0, 1) := by decide +kernel
theorem dL_law_822 : decode cL_law 822 = .ok (.ireturn, 1) := by decide +kernel
theorem dL_law_823 : decode cL_law 823 = .ok (.goto 478, 3) := by decide +kernel
theorem dL_law_826 : decode cL_law 826 = .ok (.aload_n 1, 1) := by decide +kernel
theorem dL_law_827 : decode cL_law 827 = .ok (.aload_n 0, 1) := by decide +kernel
theorem dL_law_828 : decode cL_law 828 = .ok (.iload 4, 2) := by decide +kernel
theorem dL_law_830 : decode cL_law 830 = .ok (.iconst 1, 1) := by decide +kernel
theorem dL_law_831 : decode cL_law 831 = .ok (.iadd, 1) := by decide +kernel
theorem dL_law_832 : decode cL_law 832 = .ok (.iaload, 1) := by decide +kernel
theorem dL_law_833 : decode cL_law 833 = .ok (.invokevirtual 95, 3) := by decide +kernel
theorem dL_law_836 : decode cL_law 836 = .ok (.aload_n 2, 1) := by decide +kernel
theorem dL_law_837 : decode cL_law 837 = .ok (.aload_n 0, 1) := by decide +kernel
theorem dL_law_838 : decode cL_law 838 = .ok (.iload 4, 2) := by decide +kernel
theorem dL_law_840 : decode cL_law 840 = .ok (.iconst 1, 1) := by decide +kernel
theorem dL_law_841 : decode cL_law 841 = .ok (.iadd, 1) := by decide +kernel
theorem dL_law_842 : decode cL_law 842 = .ok (.iaload, 1) := by decide +kernel
theorem dL_law_843 : decode cL_law 843 = .ok (.invokevirtual 98, 3) := by decide +kernel
theorem dL_law_846 : decode cL_law 846 = .ok (.if_icmp .eq 455, 3) := by decide +kernel
theorem dL_law_849 : decode cL_law 849 = .ok (.iconst 0, 1) := by decide +kernel
theorem dL_law_850 : decode cL_law 850 = .ok (.ireturn, 1) := by decide +kernel
theorem dL_law_851 : decode cL_law 851 = .ok (.aload_n 1, 1) := by decide +kernel
theorem dL_law_852 : decode cL_law 852 = .ok (.aload_n 0, 1) := by decide +kernel
theorem dL_law_853 : decode cL_law 853 = .ok (.iload 4, 2) := by decide +kernel
theorem dL_law_855 : decode cL_law 855 = .ok (.iconst 1, 1) := by decide +kernel
theorem dL_law_856 : decode cL_law 856 = .ok (.iadd, 1) := by decide +kernel
theorem dL_law_857 : decode cL_law 857 = .ok (.iaload, 1) := by decide +kernel
theorem dL_law_858 : decode cL_law 858 = .ok (.invokevirtual 99, 3) := by decide +kernel
theorem dL_law_861 : decode cL_law 861 = .ok (.aload_n 2, 1) := by decide +kernel
theorem dL_law_862 : decode cL_law 862 = .ok (.aload_n 0, 1) := by decide +kernel
theorem dL_law_863 : decode cL_law 863 = .ok (.iload 4, 2) := by decide +kernel
theorem dL_law_865 : decode cL_law 865 = .ok (.iconst 1, 1) := by decide +kernel
theorem dL_law_866 : decode cL_law 866 = .ok (.iadd, 1) := by decide +kernel
theorem dL_law_867 : decode cL_law 867 = .ok (.iaload, 1) := by decide +kernel
theorem dL_law_868 : decode cL_law 868 = .ok (.invokevirtual 102, 3) := by decide +kernel
theorem dL_law_871 : decode cL_law 871 = .ok (.if_icmp .eq 430, 3) := by decide +kernel
theorem dL_law_874 : decode cL_law 874 = .ok (.iconst 0, 1) := by decide +kernel
theorem dL_law_875 : decode cL_law 875 = .ok (.ireturn, 1) := by decide +kernel
theorem dL_law_876 : decode cL_law 876 = .ok (.aload_n 1, 1) := by decide +kernel
theorem dL_law_877 : decode cL_law 877 = .ok (.invokevirtual 103, 3) := by decide +kernel
theorem dL_law_880 : decode cL_law 880 = .ok (.aload_n 2, 1) := by decide +kernel
theorem dL_law_881 : decode cL_law 881 = .ok (.invokevirtual 106, 3) := by decide +kernel
theorem dL_law_884 : decode cL_law 884 = .ok (.if_icmp .eq 417, 3) := by decide +kernel
theorem dL_law_887 : decode cL_law 887 = .ok (.iconst 0, 1) := by decide +kernel
theorem dL_law_888 : decode cL_law 888 = .ok (.ireturn, 1) := by decide +kernel
theorem dL_law_889 : decode cL_law 889 = .ok (.aload_n 1, 1) := by decide +kernel
theorem dL_law_890 : decode cL_law 890 = .ok (.aload_n 0, 1) := by decide +kernel
theorem dL_law_891 : decode cL_law 891 = .ok (.iload 4, 2) := by decide +kernel
theorem dL_law_893 : decode cL_law 893 = .ok (.iconst 1, 1) := by decide +kernel
theorem dL_law_894 : decode cL_law 894 = .ok (.iadd, 1) := by decide +kernel
theorem dL_law_895 : decode cL_law 895 = .ok (.iaload, 1) := by decide +kernel
theorem dL_law_896 : decode cL_law 896 = .ok (.invokevirtual 107, 3) := by decide +kernel
theorem dL_law_899 : decode cL_law 899 = .ok (.aload_n 2, 1) := by decide +kernel
theorem dL_law_900 : decode cL_law 900 = .ok (.aload_n 0, 1) := by decide +kernel
theorem dL_law_901 : decode cL_law 901 = .ok (.iload 4, 2) := by decide +kernel
theorem dL_law_903 : decode cL_law 903 = .ok (.iconst 1, 1) := by decide +kernel
theorem dL_law_904 : decode cL_law 904 = .ok (.iadd, 1) := by decide +kernel
theorem dL_law_905 : decode cL_law 905 = .ok (.iaload, 1) := by decide +kernel
theorem dL_law_906 : decode cL_law 906 = .ok (.invokevirtual 110, 3) := by decide +kernel
theorem dL_law_909 : decode cL_law 909 = .ok (.if_icmp .eq 392, 3) := by decide +kernel
theorem dL_law_912 : decode cL_law 912 = .ok (.iconst 0, 1) := by decide +kernel
theorem dL_law_913 : decode cL_law 913 = .ok (.ireturn, 1) := by decide +kernel
theorem dL_law_914 : decode cL_law 914 = .ok (.aload_n 1, 1) := by decide +kernel
theorem dL_law_915 : decode cL_law 915 = .ok (.aload_n 0, 1) := by decide +kernel
theorem dL_law_916 : decode cL_law 916 = .ok (.iload 4, 2) := by decide +kernel
theorem dL_law_918 : decode cL_law 918 = .ok (.iconst 1, 1) := by decide +kernel
theorem dL_law_919 : decode cL_law 919 = .ok (.iadd, 1) := by decide +kernel
theorem dL_law_920 : decode cL_law 920 = .ok (.iaload, 1) := by decide +kernel
theorem dL_law_921 : decode cL_law 921 = .ok (.invokevirtual 111, 3) := by decide +kernel
theorem dL_law_924 : decode cL_law 924 = .ok (.aload_n 2, 1) := by decide +kernel
theorem dL_law_925 : decode cL_law 925 = .ok (.aload_n 0, 1) := by decide +kernel
theorem dL_law_926 : decode cL_law 926 = .ok (.iload 4, 2) := by decide +kernel
theorem dL_law_928 : decode cL_law 928 = .ok (.iconst 1, 1) := by decide +kernel
theorem dL_law_929 : decode cL_law 929 = .ok (.iadd, 1) := by decide +kernel
theorem dL_law_930 : decode cL_law 930 = .ok (.iaload, 1) := by decide +kernel
theorem dL_law_931 : decode cL_law 931 = .ok (.invokevirtual 114, 3) := by decide +kernel
theorem dL_law_934 : decode cL_law 934 = .ok (.if_icmp .eq 367, 3) := by decide +kernel
theorem dL_law_937 : decode cL_law 937 = .ok (.iconst 0, 1) := by decide +kernel
theorem dL_law_938 : decode cL_law 938 = .ok (.ireturn, 1) := by decide +kernel
theorem dL_law_939 : decode cL_law 939 = .ok (.aload_n 1, 1) := by decide +kernel
theorem dL_law_940 : decode cL_law 940 = .ok (.aload_n 0, 1) := by decide +kernel
theorem dL_law_941 : decode cL_law 941 = .ok (.iload 4, 2) := by decide +kernel
theorem dL_law_943 : decode cL_law 943 = .ok (.iconst 1, 1) := by decide +kernel
theorem dL_law_944 : decode cL_law 944 = .ok (.iadd, 1) := by decide +kernel
theorem dL_law_945 : decode cL_law 945 = .ok (.iaload, 1) := by decide +kernel
theorem dL_law_946 : decode cL_law 946 = .ok (.invokevirtual 115, 3) := by decide +kernel
theorem dL_law_949 : decode cL_law 949 = .ok (.aload_n 2, 1) := by decide +kernel
theorem dL_law_950 : decode cL_law 950 = .ok (.aload_n 0, 1) := by decide +kernel
theorem dL_law_951 : decode cL_law 951 = .ok (.iload 4, 2) := by decide +kernel
theorem dL_law_953 : decode cL_law 953 = .ok (.iconst 1, 1) := by decide +kernel
theorem dL_law_954 : decode cL_law 954 = .ok (.iadd, 1) := by decide +kernel
theorem dL_law_955 : decode cL_law 955 = .ok (.iaload, 1) := by decide +kernel
theorem dL_law_956 : decode cL_law 956 = .ok (.invokevirtual 118, 3) := by decide +kernel
theorem dL_law_959 : decode cL_law 959 = .ok (.if_icmp .eq 342, 3) := by decide +kernel
theorem dL_law_962 : decode cL_law 962 = .ok (.iconst 0, 1) := by decide +kernel
theorem dL_law_963 : decode cL_law 963 = .ok (.ireturn, 1) := by decide +kernel
theorem dL_law_964 : decode cL_law 964 = .ok (.aload_n 1, 1) := by decide +kernel
theorem dL_law_965 : decode cL_law 965 = .ok (.aload_n 0, 1) := by decide +kernel
theorem dL_law_966 : decode cL_law 966 = .ok (.iload 4, 2) := by decide +kernel
theorem dL_law_968 : decode cL_law 968 = .ok (.iconst 1, 1) := by decide +kernel
theorem dL_law_969 : decode cL_law 969 = .ok (.iadd, 1) := by decide +kernel
theorem dL_law_970 : decode cL_law 970 = .ok (.iaload, 1) := by decide +kernel
theorem dL_law_971 : decode cL_law 971 = .ok (.aload_n 0, 1) := by decide +kernel
theorem dL_law_972 : decode cL_law 972 = .ok (.iload 4, 2) := by decide +kernel
theorem dL_law_974 : decode cL_law 974 = .ok (.iconst 2, 1) := by decide +kernel
theorem dL_law_975 : decode cL_law 975 = .ok (.iadd, 1) := by decide +kernel
theorem dL_law_976 : decode cL_law 976 = .ok (.iaload, 1) := by decide +kernel
theorem dL_law_977 : decode cL_law 977 = .ok (.invokevirtual 119, 3) := by decide +kernel
theorem dL_law_980 : decode cL_law 980 = .ok (.aload_n 2, 1) := by decide +kernel
theorem dL_law_981 : decode cL_law 981 = .ok (.aload_n 0, 1) := by decide +kernel
theorem dL_law_982 : decode cL_law 982 = .ok (.iload 4, 2) := by decide +kernel
theorem dL_law_984 : decode cL_law 984 = .ok (.iconst 1, 1) := by decide +kernel
theorem dL_law_985 : decode cL_law 985 = .ok (.iadd, 1) := by decide +kernel
theorem dL_law_986 : decode cL_law 986 = .ok (.iaload, 1) := by decide +kernel
theorem dL_law_987 : decode cL_law 987 = .ok (.aload_n 0, 1) := by decide +kernel
theorem dL_law_988 : decode cL_law 988 = .ok (.iload 4, 2) := by decide +kernel
theorem dL_law_990 : decode cL_law 990 = .ok (.iconst 2, 1) := by decide +kernel
theorem dL_law_991 : decode cL_law 991 = .ok (.iadd, 1) := by decide +kernel
theorem dL_law_992 : decode cL_law 992 = .ok (.iaload, 1) := by decide +kernel
theorem dL_law_993 : decode cL_law 993 = .ok (.invokevirtual 123, 3) := by decide +kernel
theorem dL_law_996 : decode cL_law 996 = .ok (.if_icmp .eq 305, 3) := by decide +kernel
theorem dL_law_999 : decode cL_law 999 = .ok (.iconst 0, 1) := by decide +kernel
theorem dL_law_1000 : decode cL_law 1000 = .ok (.ireturn, 1) := by decide +kernel
theorem dL_law_1001 : decode cL_law 1001 = .ok (.aload_n 1, 1) := by decide +kernel
theorem dL_law_1002 : decode cL_law 1002 = .ok (.aload_n 0, 1) := by decide +kernel
theorem dL_law_1003 : decode cL_law 1003 = .ok (.iload 4, 2) := by decide +kernel
theorem dL_law_1005 : decode cL_law 1005 = .ok (.iconst 1, 1) := by decide +kernel
theorem dL_law_1006 : decode cL_law 1006 = .ok (.iadd, 1) := by decide +kernel
theorem dL_law_1007 : decode cL_law 1007 = .ok (.iaload, 1) := by decide +kernel
theorem dL_law_1008 : decode cL_law 1008 = .ok (.aload_n 0, 1) := by decide +kernel
theorem dL_law_1009 : decode cL_law 1009 = .ok (.iload 4, 2) := by decide +kernel
theorem dL_law_1011 : decode cL_law 1011 = .ok (.iconst 2, 1) := by decide +kernel
theorem dL_law_1012 : decode cL_law 1012 = .ok (.iadd, 1) := by decide +kernel
theorem dL_law_1013 : decode cL_law 1013 = .ok (.iaload, 1) := by decide +kernel
theorem dL_law_1014 : decode cL_law 1014 = .ok (.invokevirtual 124, 3) := by decide +kernel
theorem dL_law_1017 : decode cL_law 1017 = .ok (.aload_n 2, 1) := by decide +kernel
theorem dL_law_1018 : decode cL_law 1018 = .ok (.aload_n 0, 1) := by decide +kernel
theorem dL_law_1019 : decode cL_law 1019 = .ok (.iload 4, 2) := by decide +kernel
theorem dL_law_1021 : decode cL_law 1021 = .ok (.iconst 1, 1) := by decide +kernel
theorem dL_law_1022 : decode cL_law 1022 = .ok (.iadd, 1) := by decide +kernel
theorem dL_law_1023 : decode cL_law 1023 = .ok (.iaload, 1) := by decide +kernel
theorem dL_law_1024 : decode cL_law 1024 = .ok (.aload_n 0, 1) := by decide +kernel
theorem dL_law_1025 : decode cL_law 1025 = .ok (.iload 4, 2) := by decide +kernel
theorem dL_law_1027 : decode cL_law 1027 = .ok (.iconst 2, 1) := by decide +kernel
theorem dL_law_1028 : decode cL_law 1028 = .ok (.iadd, 1) := by decide +kernel
theorem dL_law_1029 : decode cL_law 1029 = .ok (.iaload, 1) := by decide +kernel
theorem dL_law_1030 : decode cL_law 1030 = .ok (.invokevirtual 127, 3) := by decide +kernel
theorem dL_law_1033 : decode cL_law 1033 = .ok (.if_icmp .eq 268, 3) := by decide +kernel
theorem dL_law_1036 : decode cL_law 1036 = .ok (.iconst 0, 1) := by decide +kernel
theorem dL_law_1037 : decode cL_law 1037 = .ok (.ireturn, 1) := by decide +kernel
theorem dL_law_1038 : decode cL_law 1038 = .ok (.aload_n 1, 1) := by decide +kernel
theorem dL_law_1039 : decode cL_law 1039 = .ok (.aload_n 0, 1) := by decide +kernel
theorem dL_law_1040 : decode cL_law 1040 = .ok (.iload 4, 2) := by decide +kernel
theorem dL_law_1042 : decode cL_law 1042 = .ok (.iconst 1, 1) := by decide +kernel
theorem dL_law_1043 : decode cL_law 1043 = .ok (.iadd, 1) := by decide +kernel
theorem dL_law_1044 : decode cL_law 1044 = .ok (.iaload, 1) := by decide +kernel
theorem dL_law_1045 : decode cL_law 1045 = .ok (.aload_n 0, 1) := by decide +kernel
theorem dL_law_1046 : decode cL_law 1046 = .ok (.iload 4, 2) := by decide +kernel
theorem dL_law_1048 : decode cL_law 1048 = .ok (.iconst 2, 1) := by decide +kernel
theorem dL_law_1049 : decode cL_law 1049 = .ok (.iadd, 1) := by decide +kernel
theorem dL_law_1050 : decode cL_law 1050 = .ok (.iaload, 1) := by decide +kernel
theorem dL_law_1051 : decode cL_law 1051 = .ok (.invokevirtual 128, 3) := by decide +kernel
theorem dL_law_1054 : decode cL_law 1054 = .ok (.aload_n 2, 1) := by decide +kernel
theorem dL_law_1055 : decode cL_law 1055 = .ok (.aload_n 0, 1) := by decide +kernel
theorem dL_law_1056 : decode cL_law 1056 = .ok (.iload 4, 2) := by decide +kernel
theorem dL_law_1058 : decode cL_law 1058 = .ok (.iconst 1, 1) := by decide +kernel
theorem dL_law_1059 : decode cL_law 1059 = .ok (.iadd, 1) := by decide +kernel
theorem dL_law_1060 : decode cL_law 1060 = .ok (.iaload, 1) := by decide +kernel
theorem dL_law_1061 : decode cL_law 1061 = .ok (.aload_n 0, 1) := by decide +kernel
theorem dL_law_1062 : decode cL_law 1062 = .ok (.iload 4, 2) := by decide +kernel
theorem dL_law_1064 : decode cL_law 1064 = .ok (.iconst 2, 1) := by decide +kernel
theorem dL_law_1065 : decode cL_law 1065 = .ok (.iadd, 1) := by decide +kernel
theorem dL_law_1066 : decode cL_law 1066 = .ok (.iaload, 1) := by decide +kernel
theorem dL_law_1067 : decode cL_law 1067 = .ok (.invokevirtual 131, 3) := by decide +kernel
theorem dL_law_1070 : decode cL_law 1070 = .ok (.if_icmp .eq 231, 3) := by decide +kernel
theorem dL_law_1073 : decode cL_law 1073 = .ok (.iconst 0, 1) := by decide +kernel
theorem dL_law_1074 : decode cL_law 1074 = .ok (.ireturn, 1) := by decide +kernel
theorem dL_law_1075 : decode cL_law 1075 = .ok (.aload_n 1, 1) := by decide +kernel
theorem dL_law_1076 : decode cL_law 1076 = .ok (.aload_n 0, 1) := by decide +kernel
theorem dL_law_1077 : decode cL_law 1077 = .ok (.iload 4, 2) := by decide +kernel
theorem dL_law_1079 : decode cL_law 1079 = .ok (.iconst 1, 1) := by decide +kernel
theorem dL_law_1080 : decode cL_law 1080 = .ok (.iadd, 1) := by decide +kernel
theorem dL_law_1081 : decode cL_law 1081 = .ok (.iaload, 1) := by decide +kernel
theorem dL_law_1082 : decode cL_law 1082 = .ok (.aload_n 0, 1) := by decide +kernel
theorem dL_law_1083 : decode cL_law 1083 = .ok (.iload 4, 2) := by decide +kernel
theorem dL_law_1085 : decode cL_law 1085 = .ok (.iconst 2, 1) := by decide +kernel
theorem dL_law_1086 : decode cL_law 1086 = .ok (.iadd, 1) := by decide +kernel
theorem dL_law_1087 : decode cL_law 1087 = .ok (.iaload, 1) := by decide +kernel
theorem dL_law_1088 : decode cL_law 1088 = .ok (.aload_n 0, 1) := by decide +kernel
theorem dL_law_1089 : decode cL_law 1089 = .ok (.iload 4, 2) := by decide +kernel
theorem dL_law_1091 : decode cL_law 1091 = .ok (.iconst 3, 1) := by decide +kernel
theorem dL_law_1092 : decode cL_law 1092 = .ok (.iadd, 1) := by decide +kernel
theorem dL_law_1093 : decode cL_law 1093 = .ok (.iaload, 1) := by decide +kernel
theorem dL_law_1094 : decode cL_law 1094 = .ok (.invokevirtual 132, 3) := by decide +kernel
theorem dL_law_1097 : decode cL_law 1097 = .ok (.aload_n 2, 1) := by decide +kernel
theorem dL_law_1098 : decode cL_law 1098 = .ok (.aload_n 0, 1) := by decide +kernel
theorem dL_law_1099 : decode cL_law 1099 = .ok (.iload 4, 2) := by decide +kernel
theorem dL_law_1101 : decode cL_law 1101 = .ok (.iconst 1, 1) := by decide +kernel
theorem dL_law_1102 : decode cL_law 1102 = .ok (.iadd, 1) := by decide +kernel
theorem dL_law_1103 : decode cL_law 1103 = .ok (.iaload, 1) := by decide +kernel
theorem dL_law_1104 : decode cL_law 1104 = .ok (.aload_n 0, 1) := by decide +kernel
theorem dL_law_1105 : decode cL_law 1105 = .ok (.iload 4, 2) := by decide +kernel
theorem dL_law_1107 : decode cL_law 1107 = .ok (.iconst 2, 1) := by decide +kernel
theorem dL_law_1108 : decode cL_law 1108 = .ok (.iadd, 1) := by decide +kernel
theorem dL_law_1109 : decode cL_law 1109 = .ok (.iaload, 1) := by decide +kernel
theorem dL_law_1110 : decode cL_law 1110 = .ok (.aload_n 0, 1) := by decide +kernel
theorem dL_law_1111 : decode cL_law 1111 = .ok (.iload 4, 2) := by decide +kernel
theorem dL_law_1113 : decode cL_law 1113 = .ok (.iconst 3, 1) := by decide +kernel
theorem dL_law_1114 : decode cL_law 1114 = .ok (.iadd, 1) := by decide +kernel
theorem dL_law_1115 : decode cL_law 1115 = .ok (.iaload, 1) := by decide +kernel
theorem dL_law_1116 : decode cL_law 1116 = .ok (.invokevirtual 136, 3) := by decide +kernel
theorem dL_law_1119 : decode cL_law 1119 = .ok (.if_icmp .eq 182, 3) := by decide +kernel
theorem dL_law_1122 : decode cL_law 1122 = .ok (.iconst 0, 1) := by decide +kernel
theorem dL_law_1123 : decode cL_law 1123 = .ok (.ireturn, 1) := by decide +kernel
theorem dL_law_1124 : decode cL_law 1124 = .ok (.aload_n 1, 1) := by decide +kernel
theorem dL_law_1125 : decode cL_law 1125 = .ok (.aload_n 0, 1) := by decide +kernel
theorem dL_law_1126 : decode cL_law 1126 = .ok (.iload 4, 2) := by decide +kernel
theorem dL_law_1128 : decode cL_law 1128 = .ok (.iconst 1, 1) := by decide +kernel
theorem dL_law_1129 : decode cL_law 1129 = .ok (.iadd, 1) := by decide +kernel
theorem dL_law_1130 : decode cL_law 1130 = .ok (.iaload, 1) := by decide +kernel
theorem dL_law_1131 : decode cL_law 1131 = .ok (.aload_n 0, 1) := by decide +kernel
theorem dL_law_1132 : decode cL_law 1132 = .ok (.iload 4, 2) := by decide +kernel
theorem dL_law_1134 : decode cL_law 1134 = .ok (.iconst 2, 1) := by decide +kernel
theorem dL_law_1135 : decode cL_law 1135 = .ok (.iadd, 1) := by decide +kernel
theorem dL_law_1136 : decode cL_law 1136 = .ok (.iaload, 1) := by decide +kernel
theorem dL_law_1137 : decode cL_law 1137 = .ok (.aload_n 0, 1) := by decide +kernel
theorem dL_law_1138 : decode cL_law 1138 = .ok (.iload 4, 2) := by decide +kernel
theorem dL_law_1140 : decode cL_law 1140 = .ok (.iconst 3, 1) := by decide +kernel
theorem dL_law_1141 : decode cL_law 1141 = .ok (.iadd, 1) := by decide +kernel
theorem dL_law_1142 : decode cL_law 1142 = .ok (.iaload, 1) := by decide +kernel
theorem dL_law_1143 : decode cL_law 1143 = .ok (.aload_n 0, 1) := by decide +kernel
theorem dL_law_1144 : decode cL_law 1144 = .ok (.iload 4, 2) := by decide +kernel
theorem dL_law_1146 : decode cL_law 1146 = .ok (.iconst 4, 1) := by decide +kernel
theorem dL_law_1147 : decode cL_law 1147 = .ok (.iadd, 1) := by decide +kernel
theorem dL_law_1148 : decode cL_law 1148 = .ok (.iaload, 1) := by decide +kernel
theorem dL_law_1149 : decode cL_law 1149 = .ok (.invokevirtual 137, 3) := by decide +kernel
theorem dL_law_1152 : decode cL_law 1152 = .ok (.aload_n 2, 1) := by decide +kernel
theorem dL_law_1153 : decode cL_law 1153 = .ok (.aload_n 0, 1) := by decide +kernel
theorem dL_law_1154 : decode cL_law 1154 = .ok (.iload 4, 2) := by decide +kernel
theorem dL_law_1156 : decode cL_law 1156 = .ok (.iconst 1, 1) := by decide +kernel
theorem dL_law_1157 : decode cL_law 1157 = .ok (.iadd, 1) := by decide +kernel
theorem dL_law_1158 : decode cL_law 1158 = .ok (.iaload, 1) := by decide +kernel
theorem dL_law_1159 : decode cL_law 1159 = .ok (.aload_n 0, 1) := by decide +kernel
theorem dL_law_1160 : decode cL_law 1160 = .ok (.iload 4, 2) := by decide +kernel
theorem dL_law_1162 : decode cL_law 1162 = .ok (.iconst 2, 1) := by decide +kernel
theorem dL_law_1163 : decode cL_law 1163 = .ok (.iadd, 1) := by decide +kernel
theorem dL_law_1164 : decode cL_law 1164 = .ok (.iaload, 1) := by decide +kernel
theorem dL_law_1165 : decode cL_law 1165 = .ok (.aload_n 0, 1) := by decide +kernel
theorem dL_law_1166 : decode cL_law 1166 = .ok (.iload 4, 2) := by decide +kernel
theorem dL_law_1168 : decode cL_law 1168 = .ok (.iconst 3, 1) := by decide +kernel
theorem dL_law_1169 : decode cL_law 1169 = .ok (.iadd, 1) := by decide +kernel
theorem dL_law_1170 : decode cL_law 1170 = .ok (.iaload, 1) := by decide +kernel
theorem dL_law_1171 : decode cL_law 1171 = .ok (.aload_n 0, 1) := by decide +kernel
theorem dL_law_1172 : decode cL_law 1172 = .ok (.iload 4, 2) := by decide +kernel
theorem dL_law_1174 : decode cL_law 1174 = .ok (.iconst 4, 1) := by decide +kernel
theorem dL_law_1175 : decode cL_law 1175 = .ok (.iadd, 1) := by decide +kernel
theorem dL_law_1176 : decode cL_law 1176 = .ok (.iaload, 1) := by decide +kernel
theorem dL_law_1177 : decode cL_law 1177 = .ok (.invokevirtual 141, 3) := by decide +kernel
theorem dL_law_1180 : decode cL_law 1180 = .ok (.if_icmp .eq 121, 3) := by decide +kernel
theorem dL_law_1183 : decode cL_law 1183 = .ok (.iconst 0, 1) := by decide +kernel
theorem dL_law_1184 : decode cL_law 1184 = .ok (.ireturn, 1) := by decide +kernel
theorem dL_law_1185 : decode cL_law 1185 = .ok (.aload_n 1, 1) := by decide +kernel
theorem dL_law_1186 : decode cL_law 1186 = .ok (.aload_n 0, 1) := by decide +kernel
theorem dL_law_1187 : decode cL_law 1187 = .ok (.iload 4, 2) := by decide +kernel
theorem dL_law_1189 : decode cL_law 1189 = .ok (.iconst 1, 1) := by decide +kernel
theorem dL_law_1190 : decode cL_law 1190 = .ok (.iadd, 1) := by decide +kernel
theorem dL_law_1191 : decode cL_law 1191 = .ok (.iaload, 1) := by decide +kernel
theorem dL_law_1192 : decode cL_law 1192 = .ok (.invokevirtual 142, 3) := by decide +kernel
theorem dL_law_1195 : decode cL_law 1195 = .ok (.aload_n 2, 1) := by decide +kernel
theorem dL_law_1196 : decode cL_law 1196 = .ok (.aload_n 0, 1) := by decide +kernel
theorem dL_law_1197 : decode cL_law 1197 = .ok (.iload 4, 2) := by decide +kernel
theorem dL_law_1199 : decode cL_law 1199 = .ok (.iconst 1, 1) := by decide +kernel
theorem dL_law_1200 : decode cL_law 1200 = .ok (.iadd, 1) := by decide +kernel
theorem dL_law_1201 : decode cL_law 1201 = .ok (.iaload, 1) := by decide +kernel
theorem dL_law_1202 : decode cL_law 1202 = .ok (.invokevirtual 145, 3) := by decide +kernel
theorem dL_law_1205 : decode cL_law 1205 = .ok (.if_icmp .eq 96, 3) := by decide +kernel
theorem dL_law_1208 : decode cL_law 1208 = .ok (.iconst 0, 1) := by decide +kernel
theorem dL_law_1209 : decode cL_law 1209 = .ok (.ireturn, 1) := by decide +kernel
theorem dL_law_1210 : decode cL_law 1210 = .ok (.aload_n 1, 1) := by decide +kernel
theorem dL_law_1211 : decode cL_law 1211 = .ok (.invokevirtual 146, 3) := by decide +kernel
theorem dL_law_1214 : decode cL_law 1214 = .ok (.aload_n 2, 1) := by decide +kernel
theorem dL_law_1215 : decode cL_law 1215 = .ok (.invokevirtual 149, 3) := by decide +kernel
theorem dL_law_1218 : decode cL_law 1218 = .ok (.if_icmp .eq 83, 3) := by decide +kernel
theorem dL_law_1221 : decode cL_law 1221 = .ok (.iconst 0, 1) := by decide +kernel
theorem dL_law_1222 : decode cL_law 1222 = .ok (.ireturn, 1) := by decide +kernel
theorem dL_law_1223 : decode cL_law 1223 = .ok (.aload_n 1, 1) := by decide +kernel
theorem dL_law_1224 : decode cL_law 1224 = .ok (.aload_n 0, 1) := by decide +kernel
theorem dL_law_1225 : decode cL_law 1225 = .ok (.iload 4, 2) := by decide +kernel
theorem dL_law_1227 : decode cL_law 1227 = .ok (.iconst 1, 1) := by decide +kernel
theorem dL_law_1228 : decode cL_law 1228 = .ok (.iadd, 1) := by decide +kernel
theorem dL_law_1229 : decode cL_law 1229 = .ok (.iaload, 1) := by decide +kernel
theorem dL_law_1230 : decode cL_law 1230 = .ok (.aload_n 0, 1) := by decide +kernel
theorem dL_law_1231 : decode cL_law 1231 = .ok (.iload 4, 2) := by decide +kernel
theorem dL_law_1233 : decode cL_law 1233 = .ok (.iconst 2, 1) := by decide +kernel
theorem dL_law_1234 : decode cL_law 1234 = .ok (.iadd, 1) := by decide +kernel
theorem dL_law_1235 : decode cL_law 1235 = .ok (.iaload, 1) := by decide +kernel
theorem dL_law_1236 : decode cL_law 1236 = .ok (.ifCond .eq 7, 3) := by decide +kernel
theorem dL_law_1239 : decode cL_law 1239 = .ok (.iconst 1, 1) := by decide +kernel
theorem dL_law_1240 : decode cL_law 1240 = .ok (.goto 4, 3) := by decide +kernel
theorem dL_law_1243 : decode cL_law 1243 = .ok (.iconst 0, 1) := by decide +kernel
theorem dL_law_1244 : decode cL_law 1244 = .ok (.invokevirtual 150, 3) := by decide +kernel
theorem dL_law_1247 : decode cL_law 1247 = .ok (.aload_n 2, 1) := by decide +kernel
theorem dL_law_1248 : decode cL_law 1248 = .ok (.aload_n 0, 1) := by decide +kernel
theorem dL_law_1249 : decode cL_law 1249 = .ok (.iload 4, 2) := by decide +kernel
theorem dL_law_1251 : decode cL_law 1251 = .ok (.iconst 1, 1) := by decide +kernel
theorem dL_law_1252 : decode cL_law 1252 = .ok (.iadd, 1) := by decide +kernel
theorem dL_law_1253 : decode cL_law 1253 = .ok (.iaload, 1) := by decide +kernel
theorem dL_law_1254 : decode cL_law 1254 = .ok (.aload_n 0, 1) := by decide +kernel
theorem dL_law_1255 : decode cL_law 1255 = .ok (.iload 4, 2) := by decide +kernel
theorem dL_law_1257 : decode cL_law 1257 = .ok (.iconst 2, 1) := by decide +kernel
theorem dL_law_1258 : decode cL_law 1258 = .ok (.iadd, 1) := by decide +kernel
theorem dL_law_1259 : decode cL_law 1259 = .ok (.iaload, 1) := by decide +kernel
theorem dL_law_1260 : decode cL_law 1260 = .ok (.ifCond .eq 7, 3) := by decide +kernel
theorem dL_law_1263 : decode cL_law 1263 = .ok (.iconst 1, 1) := by decide +kernel
theorem dL_law_1264 : decode cL_law 1264 = .ok (.goto 4, 3) := by decide +kernel
theorem dL_law_1267 : decode cL_law 1267 = .ok (.iconst 0, 1) := by decide +kernel
theorem dL_law_1268 : decode cL_law 1268 = .ok (.invokevirtual 154, 3) := by decide +kernel
theorem dL_law_1271 : decode cL_law 1271 = .ok (.if_icmp .eq 30, 3) := by decide +kernel
theorem dL_law_1274 : decode cL_law 1274 = .ok (.iconst 0, 1) := by decide +kernel
theorem dL_law_1275 : decode cL_law 1275 = .ok (.ireturn, 1) := by decide +kernel
theorem dL_law_1276 : decode cL_law 1276 = .ok (.aload_n 1, 1) := by decide +kernel
theorem dL_law_1277 : decode cL_law 1277 = .ok (.aload_n 0, 1) := by decide +kernel
theorem dL_law_1278 : decode cL_law 1278 = .ok (.iload 4, 2) := by decide +kernel
theorem dL_law_1280 : decode cL_law 1280 = .ok (.iconst 1, 1) := by decide +kernel
theorem dL_law_1281 : decode cL_law 1281 = .ok (.iadd, 1) := by decide +kernel
theorem dL_law_1282 : decode cL_law 1282 = .ok (.iaload, 1) := by decide +kernel
theorem dL_law_1283 : decode cL_law 1283 = .ok (.invokevirtual 155, 3) := by decide +kernel
theorem dL_law_1286 : decode cL_law 1286 = .ok (.aload_n 2, 1) := by decide +kernel
theorem dL_law_1287 : decode cL_law 1287 = .ok (.aload_n 0, 1) := by decide +kernel
theorem dL_law_1288 : decode cL_law 1288 = .ok (.iload 4, 2) := by decide +kernel
theorem dL_law_1290 : decode cL_law 1290 = .ok (.iconst 1, 1) := by decide +kernel
theorem dL_law_1291 : decode cL_law 1291 = .ok (.iadd, 1) := by decide +kernel
theorem dL_law_1292 : decode cL_law 1292 = .ok (.iaload, 1) := by decide +kernel
theorem dL_law_1293 : decode cL_law 1293 = .ok (.invokevirtual 158, 3) := by decide +kernel
theorem dL_law_1296 : decode cL_law 1296 = .ok (.if_icmp .eq 5, 3) := by decide +kernel
theorem dL_law_1299 : decode cL_law 1299 = .ok (.iconst 0, 1) := by decide +kernel
theorem dL_law_1300 : decode cL_law 1300 = .ok (.ireturn, 1) := by decide +kernel
theorem dL_law_1301 : decode cL_law 1301 = .ok (.iinc 4 6, 3) := by decide +kernel
theorem dL_law_1304 : decode cL_law 1304 = .ok (.goto (-1281), 3) := by decide +kernel
theorem dL_law_1307 : decode cL_law 1307 = .ok (.iconst 1, 1) := by decide +kernel
theorem dL_law_1308 : decode cL_law 1308 = .ok (.ireturn, 1) := by decide +kernel
