theorem dX0_init_0 : decode cX0_init 0 = .ok (.aload_n 0, 1) := by decide +kernel
theorem dX0_init_1 : decode cX0_init 1 = .ok (.invokespecial 3, 3) := by decide +kernel
theorem dX0_init_4 : decode cX0_init 4 = .ok (.aload_n 0, 1) := by decide +kernel
theorem dX0_init_5 : decode cX0_init 5 = .ok (.iconst 0, 1) := by decide +kernel
theorem dX0_init_6 : decode cX0_init 6 = .ok (.putfield 9, 3) := by decide +kernel
theorem dX0_init_9 : decode cX0_init 9 = .ok (.aload_n 0, 1) := by decide +kernel
theorem dX0_init_10 : decode cX0_init 10 = .ok (.iconst 0, 1) := by decide +kernel
theorem dX0_init_11 : decode cX0_init 11 = .ok (.putfield 15, 3) := by decide +kernel
theorem dX0_init_14 : decode cX0_init 14 = .ok (.aload_n 0, 1) := by decide +kernel
theorem dX0_init_15 : decode cX0_init 15 = .ok (.bipush 12, 2) := by decide +kernel
theorem dX0_init_17 : decode cX0_init 17 = .ok (.anewarray 18, 3) := by decide +kernel
theorem dX0_init_20 : decode cX0_init 20 = .ok (.putfield 20, 3) := by decide +kernel
theorem dX0_init_23 : decode cX0_init 23 = .ok (.iconst 0, 1) := by decide +kernel
theorem dX0_init_24 : decode cX0_init 24 = .ok (.istore_n 1, 1) := by decide +kernel
theorem dX0_init_25 : decode cX0_init 25 = .ok (.iload_n 1, 1) := by decide +kernel
theorem dX0_init_26 : decode cX0_init 26 = .ok (.bipush 12, 2) := by decide +kernel
theorem dX0_init_28 : decode cX0_init 28 = .ok (.if_icmp .ge 22, 3) := by decide +kernel
theorem dX0_init_31 : decode cX0_init 31 = .ok (.aload_n 0, 1) := by decide +kernel
theorem dX0_init_32 : decode cX0_init 32 = .ok (.getfield 20, 3) := by decide +kernel
theorem dX0_init_35 : decode cX0_init 35 = .ok (.iload_n 1, 1) := by decide +kernel
theorem dX0_init_36 : decode cX0_init 36 = .ok (.new 18, 3) := by decide +kernel
theorem dX0_init_39 : decode cX0_init 39 = .ok (.dup, 1) := by decide +kernel
theorem dX0_init_40 : decode cX0_init 40 = .ok (.invokespecial 24, 3) := by decide +kernel
theorem dX0_init_43 : decode cX0_init 43 = .ok (.aastore, 1) := by decide +kernel
theorem dX0_init_44 : decode cX0_init 44 = .ok (.iinc 1 1, 3) := by decide +kernel
theorem dX0_init_47 : decode cX0_init 47 = .ok (.goto (-22), 3) := by decide +kernel
theorem dX0_init_50 : decode cX0_init 50 = .ok (.return_, 1) := by decide +kernel
theorem dX0_forget_0 : decode cX0_forget 0 = .ok (.aload_n 0, 1) := by decide +kernel
theorem dX0_forget_1 : decode cX0_forget 1 = .ok (.iconst 0, 1) := by decide +kernel
theorem dX0_forget_2 : decode cX0_forget 2 = .ok (.putfield 9, 3) := by decide +kernel
theorem dX0_forget_5 : decode cX0_forget 5 = .ok (.return_, 1) := by decide +kernel
theorem dX0_remember_0 : decode cX0_remember 0 = .ok (.aload_n 0, 1) := by decide +kernel
theorem dX0_remember_1 : decode cX0_remember 1 = .ok (.getfield 9, 3) := by decide +kernel
theorem dX0_remember_4 : decode cX0_remember 4 = .ok (.bipush 12, 2) := by decide +kernel
theorem dX0_remember_6 : decode cX0_remember 6 = .ok (.if_icmp .ne 26, 3) := by decide +kernel
theorem dX0_remember_9 : decode cX0_remember 9 = .ok (.aload_n 0, 1) := by decide +kernel
theorem dX0_remember_10 : decode cX0_remember 10 = .ok (.aload_n 0, 1) := by decide +kernel
theorem dX0_remember_11 : decode cX0_remember 11 = .ok (.getfield 15, 3) := by decide +kernel
theorem dX0_remember_14 : decode cX0_remember 14 = .ok (.iconst 1, 1) := by decide +kernel
theorem dX0_remember_15 : decode cX0_remember 15 = .ok (.iadd, 1) := by decide +kernel
theorem dX0_remember_16 : decode cX0_remember 16 = .ok (.bipush 12, 2) := by decide +kernel
theorem dX0_remember_18 : decode cX0_remember 18 = .ok (.irem, 1) := by decide +kernel
theorem dX0_remember_19 : decode cX0_remember 19 = .ok (.putfield 15, 3) := by decide +kernel
theorem dX0_remember_22 : decode cX0_remember 22 = .ok (.aload_n 0, 1) := by decide +kernel
theorem dX0_remember_23 : decode cX0_remember 23 = .ok (.dup, 1) := by decide +kernel
theorem dX0_remember_24 : decode cX0_remember 24 = .ok (.getfield 9, 3) := by decide +kernel
theorem dX0_remember_27 : decode cX0_remember 27 = .ok (.iconst 1, 1) := by decide +kernel
theorem dX0_remember_28 : decode cX0_remember 28 = .ok (.isub, 1) := by decide +kernel
theorem dX0_remember_29 : decode cX0_remember 29 = .ok (.putfield 9, 3) := by decide +kernel
theorem dX0_remember_32 : decode cX0_remember 32 = .ok (.aload_n 0, 1) := by decide +kernel
theorem dX0_remember_33 : decode cX0_remember 33 = .ok (.getfield 20, 3) := by decide +kernel
theorem dX0_remember_36 : decode cX0_remember 36 = .ok (.aload_n 0, 1) := by decide +kernel
theorem dX0_remember_37 : decode cX0_remember 37 = .ok (.getfield 15, 3) := by decide +kernel
theorem dX0_remember_40 : decode cX0_remember 40 = .ok (.aload_n 0, 1) := by decide +kernel
theorem dX0_remember_41 : decode cX0_remember 41 = .ok (.getfield 9, 3) := by decide +kernel
theorem dX0_remember_44 : decode cX0_remember 44 = .ok (.iadd, 1) := by decide +kernel
theorem dX0_remember_45 : decode cX0_remember 45 = .ok (.bipush 12, 2) := by decide +kernel
theorem dX0_remember_47 : decode cX0_remember 47 = .ok (.irem, 1) := by decide +kernel
theorem dX0_remember_48 : decode cX0_remember 48 = .ok (.aaload, 1) := by decide +kernel
theorem dX0_remember_49 : decode cX0_remember 49 = .ok (.aload_n 1, 1) := by decide +kernel
theorem dX0_remember_50 : decode cX0_remember 50 = .ok (.invokevirtual 25, 3) := by decide +kernel
theorem dX0_remember_53 : decode cX0_remember 53 = .ok (.aload_n 0, 1) := by decide +kernel
theorem dX0_remember_54 : decode cX0_remember 54 = .ok (.dup, 1) := by decide +kernel
theorem dX0_remember_55 : decode cX0_remember 55 = .ok (.getfield 9, 3) := by decide +kernel
theorem dX0_remember_58 : decode cX0_remember 58 = .ok (.iconst 1, 1) := by decide +kernel
theorem dX0_remember_59 : decode cX0_remember 59 = .ok (.iadd, 1) := by decide +kernel
theorem dX0_remember_60 : decode cX0_remember 60 = .ok (.putfield 9, 3) := by decide +kernel
theorem dX0_remember_63 : decode cX0_remember 63 = .ok (.return_, 1) := by decide +kernel
theorem dX0_restore_0 : decode cX0_restore 0 = .ok (.aload_n 0, 1) := by decide +kernel
theorem dX0_restore_1 : decode cX0_restore 1 = .ok (.getfield 9, 3) := by decide +kernel
theorem dX0_restore_4 : decode cX0_restore 4 = .ok (.ifCond .le 34, 3) := by decide +kernel
theorem dX0_restore_7 : decode cX0_restore 7 = .ok (.aload_n 0, 1) := by decide +kernel
theorem dX0_restore_8 : decode cX0_restore 8 = .ok (.dup, 1) := by decide +kernel
theorem dX0_restore_9 : decode cX0_restore 9 = .ok (.getfield 9, 3) := by decide +kernel
theorem dX0_restore_12 : decode cX0_restore 12 = .ok (.iconst 1, 1) := by decide +kernel
theorem dX0_restore_13 : decode cX0_restore 13 = .ok (.isub, 1) := by decide +kernel
theorem dX0_restore_14 : decode cX0_restore 14 = .ok (.putfield 9, 3) := by decide +kernel
theorem dX0_restore_17 : decode cX0_restore 17 = .ok (.aload_n 1, 1) := by decide +kernel
theorem dX0_restore_18 : decode cX0_restore 18 = .ok (.aload_n 0, 1) := by decide +kernel
theorem dX0_restore_19 : decode cX0_restore 19 = .ok (.getfield 20, 3) := by decide +kernel
theorem dX0_restore_22 : decode cX0_restore 22 = .ok (.aload_n 0, 1) := by decide +kernel
theorem dX0_restore_23 : decode cX0_restore 23 = .ok (.getfield 15, 3) := by decide +kernel
theorem dX0_restore_26 : decode cX0_restore 26 = .ok (.aload_n 0, 1) := by decide +kernel
theorem dX0_restore_27 : decode cX0_restore 27 = .ok (.getfield 9, 3) := by decide +kernel
theorem dX0_restore_30 : decode cX0_restore 30 = .ok (.iadd, 1) := by decide +kernel
theorem dX0_restore_31 : decode cX0_restore 31 = .ok (.bipush 12, 2) := by decide +kernel
theorem dX0_restore_33 : decode cX0_restore 33 = .ok (.irem, 1) := by decide +kernel
theorem dX0_restore_34 : decode cX0_restore 34 = .ok (.aaload, 1) := by decide +kernel
theorem dX0_restore_35 : decode cX0_restore 35 = .ok (.invokevirtual 25, 3) := by decide +kernel
theorem dX0_restore_38 : decode cX0_restore 38 = .ok (.return_, 1) := by decide +kernel
theorem dX1_init_0 : decode cX1_init 0 = .ok (.aload_n 0, 1) := by decide +kernel
theorem dX1_init_1 : decode cX1_init 1 = .ok (.invokespecial 1, 3) := by decide +kernel
theorem dX1_init_4 : decode cX1_init 4 = .ok (.aload_n 0, 1) := by decide +kernel
theorem dX1_init_5 : decode cX1_init 5 = .ok (.iconst 0, 1) := by decide +kernel
theorem dX1_init_6 : decode cX1_init 6 = .ok (.putfield 7, 3) := by decide +kernel
theorem dX1_init_9 : decode cX1_init 9 = .ok (.aload_n 0, 1) := by decide +kernel
theorem dX1_init_10 : decode cX1_init 10 = .ok (.iconst 0, 1) := by decide +kernel
theorem dX1_init_11 : decode cX1_init 11 = .ok (.putfield 13, 3) := by decide +kernel
theorem dX1_init_14 : decode cX1_init 14 = .ok (.aload_n 0, 1) := by decide +kernel
theorem dX1_init_15 : decode cX1_init 15 = .ok (.iconst 0, 1) := by decide +kernel
theorem dX1_init_16 : decode cX1_init 16 = .ok (.putfield 16, 3) := by decide +kernel
theorem dX1_init_19 : decode cX1_init 19 = .ok (.aload_n 0, 1) := by decide +kernel
theorem dX1_init_20 : decode cX1_init 20 = .ok (.iconst 0, 1) := by decide +kernel
theorem dX1_init_21 : decode cX1_init 21 = .ok (.putfield 19, 3) := by decide +kernel
theorem dX1_init_24 : decode cX1_init 24 = .ok (.return_, 1) := by decide +kernel
theorem dX1_determinant_0 : decode cX1_determinant 0 = .ok (.aload_n 0, 1) := by decide +kernel
theorem dX1_determinant_1 : decode cX1_determinant 1 = .ok (.getfield 7, 3) := by decide +kernel
theorem dX1_determinant_4 : decode cX1_determinant 4 = .ok (.aload_n 0, 1) := by decide +kernel
theorem dX1_determinant_5 : decode cX1_determinant 5 = .ok (.getfield 19, 3) := by decide +kernel
theorem dX1_determinant_8 : decode cX1_determinant 8 = .ok (.imul, 1) := by decide +kernel
theorem dX1_determinant_9 : decode cX1_determinant 9 = .ok (.aload_n 0, 1) := by decide +kernel
theorem dX1_determinant_10 : decode cX1_determinant 10 = .ok (.getfield 13, 3) := by decide +kernel
theorem dX1_determinant_13 : decode cX1_determinant 13 = .ok (.aload_n 0, 1) := by decide +kernel
theorem dX1_determinant_14 : decode cX1_determinant 14 = .ok (.getfield 16, 3) := by decide +kernel
theorem dX1_determinant_17 : decode cX1_determinant 17 = .ok (.imul, 1) := by decide +kernel
theorem dX1_determinant_18 : decode cX1_determinant 18 = .ok (.isub, 1) := by decide +kernel
theorem dX1_determinant_19 : decode cX1_determinant 19 = .ok (.iload_n 1, 1) := by decide +kernel
theorem dX1_determinant_20 : decode cX1_determinant 20 = .ok (.invokestatic 22, 3) := by decide +kernel
theorem dX1_determinant_23 : decode cX1_determinant 23 = .ok (.ireturn, 1) := by decide +kernel
theorem dX1_setInverseTurnedOver_0 : decode cX1_setInverseTurnedOver 0 = .ok (.aload_n 1, 1) := by decide +kernel
theorem dX1_setInverseTurnedOver_1 : decode cX1_setInverseTurnedOver 1 = .ok (.iload_n 2, 1) := by decide +kernel
theorem dX1_setInverseTurnedOver_2 : decode cX1_setInverseTurnedOver 2 = .ok (.invokevirtual 28, 3) := by decide +kernel
theorem dX1_setInverseTurnedOver_5 : decode cX1_setInverseTurnedOver 5 = .ok (.iload_n 2, 1) := by decide +kernel
theorem dX1_setInverseTurnedOver_6 : decode cX1_setInverseTurnedOver 6 = .ok (.invokestatic 32, 3) := by decide +kernel
theorem dX1_setInverseTurnedOver_9 : decode cX1_setInverseTurnedOver 9 = .ok (.istore_n 3, 1) := by decide +kernel
theorem dX1_setInverseTurnedOver_10 : decode cX1_setInverseTurnedOver 10 = .ok (.aload_n 0, 1) := by decide +kernel
theorem dX1_setInverseTurnedOver_11 : decode cX1_setInverseTurnedOver 11 = .ok (.aload_n 1, 1) := by decide +kernel
theorem dX1_setInverseTurnedOver_12 : decode cX1_setInverseTurnedOver 12 = .ok (.getfield 19, 3) := by decide +kernel
theorem dX1_setInverseTurnedOver_15 : decode cX1_setInverseTurnedOver 15 = .ok (.iload_n 3, 1) := by decide +kernel
theorem dX1_setInverseTurnedOver_16 : decode cX1_setInverseTurnedOver 16 = .ok (.imul, 1) := by decide +kernel
theorem dX1_setInverseTurnedOver_17 : decode cX1_setInverseTurnedOver 17 = .ok (.iload_n 2, 1) := by decide +kernel
theorem dX1_setInverseTurnedOver_18 : decode cX1_setInverseTurnedOver 18 = .ok (.invokestatic 22, 3) := by decide +kernel
theorem dX1_setInverseTurnedOver_21 : decode cX1_setInverseTurnedOver 21 = .ok (.putfield 7, 3) := by decide +kernel
theorem dX1_setInverseTurnedOver_24 : decode cX1_setInverseTurnedOver 24 = .ok (.aload_n 0, 1) := by decide +kernel
theorem dX1_setInverseTurnedOver_25 : decode cX1_setInverseTurnedOver 25 = .ok (.aload_n 1, 1) := by decide +kernel
theorem dX1_setInverseTurnedOver_26 : decode cX1_setInverseTurnedOver 26 = .ok (.getfield 16, 3) := by decide +kernel
theorem dX1_setInverseTurnedOver_29 : decode cX1_setInverseTurnedOver 29 = .ok (.ineg, 1) := by decide +kernel
theorem dX1_setInverseTurnedOver_30 : decode cX1_setInverseTurnedOver 30 = .ok (.iload_n 3, 1) := by decide +kernel
theorem dX1_setInverseTurnedOver_31 : decode cX1_setInverseTurnedOver 31 = .ok (.imul, 1) := by decide +kernel
theorem dX1_setInverseTurnedOver_32 : decode cX1_setInverseTurnedOver 32 = .ok (.iload_n 2, 1) := by decide +kernel
theorem dX1_setInverseTurnedOver_33 : decode cX1_setInverseTurnedOver 33 = .ok (.invokestatic 22, 3) := by decide +kernel
theorem dX1_setInverseTurnedOver_36 : decode cX1_setInverseTurnedOver 36 = .ok (.putfield 13, 3) := by decide +kernel
theorem dX1_setInverseTurnedOver_39 : decode cX1_setInverseTurnedOver 39 = .ok (.aload_n 0, 1) := by decide +kernel
theorem dX1_setInverseTurnedOver_40 : decode cX1_setInverseTurnedOver 40 = .ok (.aload_n 1, 1) := by decide +kernel
theorem dX1_setInverseTurnedOver_41 : decode cX1_setInverseTurnedOver 41 = .ok (.getfield 13, 3) := by decide +kernel
theorem dX1_setInverseTurnedOver_44 : decode cX1_setInverseTurnedOver 44 = .ok (.ineg, 1) := by decide +kernel
theorem dX1_setInverseTurnedOver_45 : decode cX1_setInverseTurnedOver 45 = .ok (.iload_n 3, 1) := by decide +kernel
theorem dX1_setInverseTurnedOver_46 : decode cX1_setInverseTurnedOver 46 = .ok (.imul, 1) := by decide +kernel
theorem dX1_setInverseTurnedOver_47 : decode cX1_setInverseTurnedOver 47 = .ok (.iload_n 2, 1) := by decide +kernel
theorem dX1_setInverseTurnedOver_48 : decode cX1_setInverseTurnedOver 48 = .ok (.invokestatic 22, 3) := by decide +kernel
theorem dX1_setInverseTurnedOver_51 : decode cX1_setInverseTurnedOver 51 = .ok (.putfield 16, 3) := by decide +kernel
theorem dX1_setInverseTurnedOver_54 : decode cX1_setInverseTurnedOver 54 = .ok (.aload_n 0, 1) := by decide +kernel
theorem dX1_setInverseTurnedOver_55 : decode cX1_setInverseTurnedOver 55 = .ok (.aload_n 1, 1) := by decide +kernel
theorem dX1_setInverseTurnedOver_56 : decode cX1_setInverseTurnedOver 56 = .ok (.getfield 7, 3) := by decide +kernel
theorem dX1_setInverseTurnedOver_59 : decode cX1_setInverseTurnedOver 59 = .ok (.iload_n 3, 1) := by decide +kernel
theorem dX1_setInverseTurnedOver_60 : decode cX1_setInverseTurnedOver 60 = .ok (.imul, 1) := by decide +kernel
theorem dX1_setInverseTurnedOver_61 : decode cX1_setInverseTurnedOver 61 = .ok (.iload_n 2, 1) := by decide +kernel
theorem dX1_setInverseTurnedOver_62 : decode cX1_setInverseTurnedOver 62 = .ok (.invokestatic 22, 3) := by decide +kernel
theorem dX1_setInverseTurnedOver_65 : decode cX1_setInverseTurnedOver 65 = .ok (.putfield 19, 3) := by decide +kernel
theorem dX1_setInverseTurnedOver_68 : decode cX1_setInverseTurnedOver 68 = .ok (.return_, 1) := by decide +kernel
theorem dX1_inverse_0 : decode cX1_inverse 0 = .ok (.iconst 1, 1) := by decide +kernel
theorem dX1_inverse_1 : decode cX1_inverse 1 = .ok (.istore_n 2, 1) := by decide +kernel
theorem dX1_inverse_2 : decode cX1_inverse 2 = .ok (.iload_n 2, 1) := by decide +kernel
theorem dX1_inverse_3 : decode cX1_inverse 3 = .ok (.iload_n 1, 1) := by decide +kernel
theorem dX1_inverse_4 : decode cX1_inverse 4 = .ok (.if_icmp .ge 22, 3) := by decide +kernel
theorem dX1_inverse_7 : decode cX1_inverse 7 = .ok (.iload_n 0, 1) := by decide +kernel
theorem dX1_inverse_8 : decode cX1_inverse 8 = .ok (.iload_n 2, 1) := by decide +kernel
theorem dX1_inverse_9 : decode cX1_inverse 9 = .ok (.imul, 1) := by decide +kernel
theorem dX1_inverse_10 : decode cX1_inverse 10 = .ok (.iload_n 1, 1) := by decide +kernel
theorem dX1_inverse_11 : decode cX1_inverse 11 = .ok (.invokestatic 22, 3) := by decide +kernel
theorem dX1_inverse_14 : decode cX1_inverse 14 = .ok (.iconst 1, 1) := by decide +kernel
theorem dX1_inverse_15 : decode cX1_inverse 15 = .ok (.if_icmp .ne 5, 3) := by decide +kernel
theorem dX1_inverse_18 : decode cX1_inverse 18 = .ok (.iload_n 2, 1) := by decide +kernel
theorem dX1_inverse_19 : decode cX1_inverse 19 = .ok (.ireturn, 1) := by decide +kernel
theorem dX1_inverse_20 : decode cX1_inverse 20 = .ok (.iinc 2 1, 3) := by decide +kernel
theorem dX1_inverse_23 : decode cX1_inverse 23 = .ok (.goto (-21), 3) := by decide +kernel
theorem dX1_inverse_26 : decode cX1_inverse 26 = .ok (.iconst 0, 1) := by decide +kernel
theorem dX1_inverse_27 : decode cX1_inverse 27 = .ok (.ireturn, 1) := by decide +kernel
theorem dX2_init_0 : decode cX2_init 0 = .ok (.aload_n 0, 1) := by decide +kernel
theorem dX2_init_1 : decode cX2_init 1 = .ok (.invokespecial 3, 3) := by decide +kernel
theorem dX2_init_4 : decode cX2_init 4 = .ok (.aload_n 0, 1) := by decide +kernel
theorem dX2_init_5 : decode cX2_init 5 = .ok (.iconst 0, 1) := by decide +kernel
theorem dX2_init_6 : decode cX2_init 6 = .ok (.putfield 9, 3) := by decide +kernel
theorem dX2_init_9 : decode cX2_init 9 = .ok (.aload_n 0, 1) := by decide +kernel
theorem dX2_init_10 : decode cX2_init 10 = .ok (.iconst 0, 1) := by decide +kernel
theorem dX2_init_11 : decode cX2_init 11 = .ok (.putfield 15, 3) := by decide +kernel
theorem dX2_init_14 : decode cX2_init 14 = .ok (.aload_n 0, 1) := by decide +kernel
theorem dX2_init_15 : decode cX2_init 15 = .ok (.bipush 12, 2) := by decide +kernel
theorem dX2_init_17 : decode cX2_init 17 = .ok (.newarray .int, 2) := by decide +kernel
theorem dX2_init_19 : decode cX2_init 19 = .ok (.putfield 18, 3) := by decide +kernel
theorem dX2_init_22 : decode cX2_init 22 = .ok (.aload_n 0, 1) := by decide +kernel
theorem dX2_init_23 : decode cX2_init 23 = .ok (.bipush 12, 2) := by decide +kernel
theorem dX2_init_25 : decode cX2_init 25 = .ok (.newarray .int, 2) := by decide +kernel
theorem dX2_init_27 : decode cX2_init 27 = .ok (.putfield 22, 3) := by decide +kernel
theorem dX2_init_30 : decode cX2_init 30 = .ok (.aload_n 0, 1) := by decide +kernel
theorem dX2_init_31 : decode cX2_init 31 = .ok (.sipush 256, 3) := by decide +kernel
theorem dX2_init_34 : decode cX2_init 34 = .ok (.newarray .int, 2) := by decide +kernel
theorem dX2_init_36 : decode cX2_init 36 = .ok (.putfield 25, 3) := by decide +kernel
theorem dX2_init_39 : decode cX2_init 39 = .ok (.return_, 1) := by decide +kernel
theorem dX2_begin_0 : decode cX2_begin 0 = .ok (.aload_n 0, 1) := by decide +kernel
theorem dX2_begin_1 : decode cX2_begin 1 = .ok (.iload_n 1, 1) := by decide +kernel
theorem dX2_begin_2 : decode cX2_begin 2 = .ok (.putfield 9, 3) := by decide +kernel
theorem dX2_begin_5 : decode cX2_begin 5 = .ok (.aload_n 0, 1) := by decide +kernel
theorem dX2_begin_6 : decode cX2_begin 6 = .ok (.iconst 0, 1) := by decide +kernel
theorem dX2_begin_7 : decode cX2_begin 7 = .ok (.putfield 15, 3) := by decide +kernel
theorem dX2_begin_10 : decode cX2_begin 10 = .ok (.return_, 1) := by decide +kernel
theorem dX2_hasEdge_0 : decode cX2_hasEdge 0 = .ok (.iconst 1, 1) := by decide +kernel
theorem dX2_hasEdge_1 : decode cX2_hasEdge 1 = .ok (.iload_n 1, 1) := by decide +kernel
theorem dX2_hasEdge_2 : decode cX2_hasEdge 2 = .ok (.ishl, 1) := by decide +kernel
theorem dX2_hasEdge_3 : decode cX2_hasEdge 3 = .ok (.iconst 1, 1) := by decide +kernel
theorem dX2_hasEdge_4 : decode cX2_hasEdge 4 = .ok (.iload_n 2, 1) := by decide +kernel
theorem dX2_hasEdge_5 : decode cX2_hasEdge 5 = .ok (.ishl, 1) := by decide +kernel
theorem dX2_hasEdge_6 : decode cX2_hasEdge 6 = .ok (.ior, 1) := by decide +kernel
theorem dX2_hasEdge_7 : decode cX2_hasEdge 7 = .ok (.istore_n 3, 1) := by decide +kernel
theorem dX2_hasEdge_8 : decode cX2_hasEdge 8 = .ok (.iconst 0, 1) := by decide +kernel
theorem dX2_hasEdge_9 : decode cX2_hasEdge 9 = .ok (.istore 4, 2) := by decide +kernel
theorem dX2_hasEdge_11 : decode cX2_hasEdge 11 = .ok (.iload 4, 2) := by decide +kernel
theorem dX2_hasEdge_13 : decode cX2_hasEdge 13 = .ok (.aload_n 0, 1) := by decide +kernel
theorem dX2_hasEdge_14 : decode cX2_hasEdge 14 = .ok (.getfield 15, 3) := by decide +kernel
theorem dX2_hasEdge_17 : decode cX2_hasEdge 17 = .ok (.if_icmp .ge 22, 3) := by decide +kernel
theorem dX2_hasEdge_20 : decode cX2_hasEdge 20 = .ok (.aload_n 0, 1) := by decide +kernel
theorem dX2_hasEdge_21 : decode cX2_hasEdge 21 = .ok (.getfield 18, 3) := by decide +kernel
theorem dX2_hasEdge_24 : decode cX2_hasEdge 24 = .ok (.iload 4, 2) := by decide +kernel
theorem dX2_hasEdge_26 : decode cX2_hasEdge 26 = .ok (.iaload, 1) := by decide +kernel
theorem dX2_hasEdge_27 : decode cX2_hasEdge 27 = .ok (.iload_n 3, 1) := by decide +kernel
theorem dX2_hasEdge_28 : decode cX2_hasEdge 28 = .ok (.if_icmp .ne 5, 3) := by decide +kernel
theorem dX2_hasEdge_31 : decode cX2_hasEdge 31 = .ok (.iconst 1, 1) := by decide +kernel
theorem dX2_hasEdge_32 : decode cX2_hasEdge 32 = .ok (.ireturn, 1) := by decide +kernel
theorem dX2_hasEdge_33 : decode cX2_hasEdge 33 = .ok (.iinc 4 1, 3) := by decide +kernel
theorem dX2_hasEdge_36 : decode cX2_hasEdge 36 = .ok (.goto (-25), 3) := by decide +kernel
theorem dX2_hasEdge_39 : decode cX2_hasEdge 39 = .ok (.iconst 0, 1) := by decide +kernel
theorem dX2_hasEdge_40 : decode cX2_hasEdge 40 = .ok (.ireturn, 1) := by decide +kernel
theorem dX2_addEdge_0 : decode cX2_addEdge 0 = .ok (.aload_n 0, 1) := by decide +kernel
theorem dX2_addEdge_1 : decode cX2_addEdge 1 = .ok (.getfield 15, 3) := by decide +kernel
theorem dX2_addEdge_4 : decode cX2_addEdge 4 = .ok (.bipush 12, 2) := by decide +kernel
theorem dX2_addEdge_6 : decode cX2_addEdge 6 = .ok (.if_icmp .ge 39, 3) := by decide +kernel
theorem dX2_addEdge_9 : decode cX2_addEdge 9 = .ok (.aload_n 0, 1) := by decide +kernel
theorem dX2_addEdge_10 : decode cX2_addEdge 10 = .ok (.getfield 18, 3) := by decide +kernel
theorem dX2_addEdge_13 : decode cX2_addEdge 13 = .ok (.aload_n 0, 1) := by decide +kernel
theorem dX2_addEdge_14 : decode cX2_addEdge 14 = .ok (.getfield 15, 3) := by decide +kernel
theorem dX2_addEdge_17 : decode cX2_addEdge 17 = .ok (.iconst 1, 1) := by decide +kernel
theorem dX2_addEdge_18 : decode cX2_addEdge 18 = .ok (.iload_n 1, 1) := by decide +kernel
theorem dX2_addEdge_19 : decode cX2_addEdge 19 = .ok (.ishl, 1) := by decide +kernel
theorem dX2_addEdge_20 : decode cX2_addEdge 20 = .ok (.iconst 1, 1) := by decide +kernel
theorem dX2_addEdge_21 : decode cX2_addEdge 21 = .ok (.iload_n 2, 1) := by decide +kernel
theorem dX2_addEdge_22 : decode cX2_addEdge 22 = .ok (.ishl, 1) := by decide +kernel
theorem dX2_addEdge_23 : decode cX2_addEdge 23 = .ok (.ior, 1) := by decide +kernel
theorem dX2_addEdge_24 : decode cX2_addEdge 24 = .ok (.iastore, 1) := by decide +kernel
theorem dX2_addEdge_25 : decode cX2_addEdge 25 = .ok (.aload_n 0, 1) := by decide +kernel
theorem dX2_addEdge_26 : decode cX2_addEdge 26 = .ok (.getfield 22, 3) := by decide +kernel
theorem dX2_addEdge_29 : decode cX2_addEdge 29 = .ok (.aload_n 0, 1) := by decide +kernel
theorem dX2_addEdge_30 : decode cX2_addEdge 30 = .ok (.getfield 15, 3) := by decide +kernel
theorem dX2_addEdge_33 : decode cX2_addEdge 33 = .ok (.iload_n 3, 1) := by decide +kernel
theorem dX2_addEdge_34 : decode cX2_addEdge 34 = .ok (.iastore, 1) := by decide +kernel
theorem dX2_addEdge_35 : decode cX2_addEdge 35 = .ok (.aload_n 0, 1) := by decide +kernel
theorem dX2_addEdge_36 : decode cX2_addEdge 36 = .ok (.dup, 1) := by decide +kernel
theorem dX2_addEdge_37 : decode cX2_addEdge 37 = .ok (.getfield 15, 3) := by decide +kernel
theorem dX2_addEdge_40 : decode cX2_addEdge 40 = .ok (.iconst 1, 1) := by decide +kernel
theorem dX2_addEdge_41 : decode cX2_addEdge 41 = .ok (.iadd, 1) := by decide +kernel
theorem dX2_addEdge_42 : decode cX2_addEdge 42 = .ok (.putfield 15, 3) := by decide +kernel
theorem dX2_addEdge_45 : decode cX2_addEdge 45 = .ok (.return_, 1) := by decide +kernel
theorem dX2_fill_0 : decode cX2_fill 0 = .ok (.iconst 1, 1) := by decide +kernel
theorem dX2_fill_1 : decode cX2_fill 1 = .ok (.aload_n 0, 1) := by decide +kernel
theorem dX2_fill_2 : decode cX2_fill 2 = .ok (.getfield 9, 3) := by decide +kernel
theorem dX2_fill_5 : decode cX2_fill 5 = .ok (.ishl, 1) := by decide +kernel
theorem dX2_fill_6 : decode cX2_fill 6 = .ok (.iconst 1, 1) := by decide +kernel
theorem dX2_fill_7 : decode cX2_fill 7 = .ok (.isub, 1) := by decide +kernel
theorem dX2_fill_8 : decode cX2_fill 8 = .ok (.istore_n 3, 1) := by decide +kernel
theorem dX2_fill_9 : decode cX2_fill 9 = .ok (.aload_n 0, 1) := by decide +kernel
theorem dX2_fill_10 : decode cX2_fill 10 = .ok (.getfield 25, 3) := by decide +kernel
theorem dX2_fill_13 : decode cX2_fill 13 = .ok (.iconst 0, 1) := by decide +kernel
theorem dX2_fill_14 : decode cX2_fill 14 = .ok (.iconst 1, 1) := by decide +kernel
theorem dX2_fill_15 : decode cX2_fill 15 = .ok (.iastore, 1) := by decide +kernel
theorem dX2_fill_16 : decode cX2_fill 16 = .ok (.iconst 1, 1) := by decide +kernel
theorem dX2_fill_17 : decode cX2_fill 17 = .ok (.istore 4, 2) := by decide +kernel
theorem dX2_fill_19 : decode cX2_fill 19 = .ok (.iload 4, 2) := by decide +kernel
theorem dX2_fill_21 : decode cX2_fill 21 = .ok (.iload_n 3, 1) := by decide +kernel
theorem dX2_fill_22 : decode cX2_fill 22 = .ok (.if_icmp .gt 23, 3) := by decide +kernel
theorem dX2_fill_25 : decode cX2_fill 25 = .ok (.aload_n 0, 1) := by decide +kernel
theorem dX2_fill_26 : decode cX2_fill 26 = .ok (.getfield 25, 3) := by decide +kernel
theorem dX2_fill_29 : decode cX2_fill 29 = .ok (.iload 4, 2) := by decide +kernel
theorem dX2_fill_31 : decode cX2_fill 31 = .ok (.aload_n 0, 1) := by decide +kernel
theorem dX2_fill_32 : decode cX2_fill 32 = .ok (.iload 4, 2) := by decide +kernel
theorem dX2_fill_34 : decode cX2_fill 34 = .ok (.iload_n 2, 1) := by decide +kernel
theorem dX2_fill_35 : decode cX2_fill 35 = .ok (.invokevirtual 28, 3) := by decide +kernel
theorem dX2_fill_38 : decode cX2_fill 38 = .ok (.iastore, 1) := by decide +kernel
theorem dX2_fill_39 : decode cX2_fill 39 = .ok (.iinc 4 1, 3) := by decide +kernel
theorem dX2_fill_42 : decode cX2_fill 42 = .ok (.goto (-23), 3) := by decide +kernel
theorem dX2_fill_45 : decode cX2_fill 45 = .ok (.iconst 0, 1) := by decide +kernel
theorem dX2_fill_46 : decode cX2_fill 46 = .ok (.istore 4, 2) := by decide +kernel
theorem dX2_fill_48 : decode cX2_fill 48 = .ok (.iload 4, 2) := by decide +kernel
theorem dX2_fill_50 : decode cX2_fill 50 = .ok (.aload_n 1, 1) := by decide +kernel
theorem dX2_fill_51 : decode cX2_fill 51 = .ok (.invokevirtual 32, 3) := by decide +kernel
theorem dX2_fill_54 : decode cX2_fill 54 = .ok (.if_icmp .ge 27, 3) := by decide +kernel
theorem dX2_fill_57 : decode cX2_fill 57 = .ok (.aload_n 1, 1) := by decide +kernel
theorem dX2_fill_58 : decode cX2_fill 58 = .ok (.getfield 38, 3) := by decide +kernel
theorem dX2_fill_61 : decode cX2_fill 61 = .ok (.iload 4, 2) := by decide +kernel
theorem dX2_fill_63 : decode cX2_fill 63 = .ok (.aload_n 0, 1) := by decide +kernel
theorem dX2_fill_64 : decode cX2_fill 64 = .ok (.getfield 25, 3) := by decide +kernel
theorem dX2_fill_67 : decode cX2_fill 67 = .ok (.iload_n 3, 1) := by decide +kernel
theorem dX2_fill_68 : decode cX2_fill 68 = .ok (.iload 4, 2) := by decide +kernel
theorem dX2_fill_70 : decode cX2_fill 70 = .ok (.iconst (-1), 1) := by decide +kernel
theorem dX2_fill_71 : decode cX2_fill 71 = .ok (.ixor, 1) := by decide +kernel
theorem dX2_fill_72 : decode cX2_fill 72 = .ok (.iand, 1) := by decide +kernel
theorem dX2_fill_73 : decode cX2_fill 73 = .ok (.iaload, 1) := by decide +kernel
theorem dX2_fill_74 : decode cX2_fill 74 = .ok (.iastore, 1) := by decide +kernel
theorem dX2_fill_75 : decode cX2_fill 75 = .ok (.iinc 4 1, 3) := by decide +kernel
theorem dX2_fill_78 : decode cX2_fill 78 = .ok (.goto (-30), 3) := by decide +kernel
theorem dX2_fill_81 : decode cX2_fill 81 = .ok (.return_, 1) := by decide +kernel
theorem dX2_matchingsOf_0 : decode cX2_matchingsOf 0 = .ok (.iload_n 1, 1) := by decide +kernel
theorem dX2_matchingsOf_1 : decode cX2_matchingsOf 1 = .ok (.iload_n 1, 1) := by decide +kernel
theorem dX2_matchingsOf_2 : decode cX2_matchingsOf 2 = .ok (.ineg, 1) := by decide +kernel
theorem dX2_matchingsOf_3 : decode cX2_matchingsOf 3 = .ok (.iand, 1) := by decide +kernel
theorem dX2_matchingsOf_4 : decode cX2_matchingsOf 4 = .ok (.istore_n 3, 1) := by decide +kernel
theorem dX2_matchingsOf_5 : decode cX2_matchingsOf 5 = .ok (.iconst 0, 1) := by decide +kernel
theorem dX2_matchingsOf_6 : decode cX2_matchingsOf 6 = .ok (.istore 4, 2) := by decide +kernel
theorem dX2_matchingsOf_8 : decode cX2_matchingsOf 8 = .ok (.iconst 0, 1) := by decide +kernel
theorem dX2_matchingsOf_9 : decode cX2_matchingsOf 9 = .ok (.istore 5, 2) := by decide +kernel
theorem dX2_matchingsOf_11 : decode cX2_matchingsOf 11 = .ok (.iload 5, 2) := by decide +kernel
theorem dX2_matchingsOf_13 : decode cX2_matchingsOf 13 = .ok (.aload_n 0, 1) := by decide +kernel
theorem dX2_matchingsOf_14 : decode cX2_matchingsOf 14 = .ok (.getfield 15, 3) := by decide +kernel
theorem dX2_matchingsOf_17 : decode cX2_matchingsOf 17 = .ok (.if_icmp .ge 56, 3) := by decide +kernel
theorem dX2_matchingsOf_20 : decode cX2_matchingsOf 20 = .ok (.aload_n 0, 1) := by decide +kernel
theorem dX2_matchingsOf_21 : decode cX2_matchingsOf 21 = .ok (.getfield 18, 3) := by decide +kernel
theorem dX2_matchingsOf_24 : decode cX2_matchingsOf 24 = .ok (.iload 5, 2) := by decide +kernel
theorem dX2_matchingsOf_26 : decode cX2_matchingsOf 26 = .ok (.iaload, 1) := by decide +kernel
theorem dX2_matchingsOf_27 : decode cX2_matchingsOf 27 = .ok (.istore 6, 2) := by decide +kernel
theorem dX2_matchingsOf_29 : decode cX2_matchingsOf 29 = .ok (.iload 6, 2) := by decide +kernel
theorem dX2_matchingsOf_31 : decode cX2_matchingsOf 31 = .ok (.iload_n 3, 1) := by decide +kernel
theorem dX2_matchingsOf_32 : decode cX2_matchingsOf 32 = .ok (.iand, 1) := by decide +kernel
theorem dX2_matchingsOf_33 : decode cX2_matchingsOf 33 = .ok (.ifCond .eq 34, 3) := by decide +kernel
theorem dX2_matchingsOf_36 : decode cX2_matchingsOf 36 = .ok (.iload 6, 2) := by decide +kernel
theorem dX2_matchingsOf_38 : decode cX2_matchingsOf 38 = .ok (.iload_n 1, 1) := by decide +kernel
theorem dX2_matchingsOf_39 : decode cX2_matchingsOf 39 = .ok (.iand, 1) := by decide +kernel
theorem dX2_matchingsOf_40 : decode cX2_matchingsOf 40 = .ok (.iload 6, 2) := by decide +kernel
theorem dX2_matchingsOf_42 : decode cX2_matchingsOf 42 = .ok (.if_icmp .ne 25, 3) := by decide +kernel
theorem dX2_matchingsOf_45 : decode cX2_matchingsOf 45 = .ok (.iload 4, 2) := by decide +kernel
theorem dX2_matchingsOf_47 : decode cX2_matchingsOf 47 = .ok (.aload_n 0, 1) := by decide +kernel
theorem dX2_matchingsOf_48 : decode cX2_matchingsOf 48 = .ok (.getfield 22, 3) := by decide +kernel
theorem dX2_matchingsOf_51 : decode cX2_matchingsOf 51 = .ok (.iload 5, 2) := by decide +kernel
theorem dX2_matchingsOf_53 : decode cX2_matchingsOf 53 = .ok (.iaload, 1) := by decide +kernel
theorem dX2_matchingsOf_54 : decode cX2_matchingsOf 54 = .ok (.aload_n 0, 1) := by decide +kernel
theorem dX2_matchingsOf_55 : decode cX2_matchingsOf 55 = .ok (.getfield 25, 3) := by decide +kernel
theorem dX2_matchingsOf_58 : decode cX2_matchingsOf 58 = .ok (.iload_n 1, 1) := by decide +kernel
theorem dX2_matchingsOf_59 : decode cX2_matchingsOf 59 = .ok (.iload 6, 2) := by decide +kernel
theorem dX2_matchingsOf_61 : decode cX2_matchingsOf 61 = .ok (.ixor, 1) := by decide +kernel
theorem dX2_matchingsOf_62 : decode cX2_matchingsOf 62 = .ok (.iaload, 1) := by decide +kernel
theorem dX2_matchingsOf_63 : decode cX2_matchingsOf 63 = .ok (.imul, 1) := by decide +kernel
theorem dX2_matchingsOf_64 : decode cX2_matchingsOf 64 = .ok (.iadd, 1) := by decide +kernel
theorem dX2_matchingsOf_65 : decode cX2_matchingsOf 65 = .ok (.istore 4, 2) := by decide +kernel
theorem dX2_matchingsOf_67 : decode cX2_matchingsOf 67 = .ok (.iinc 5 1, 3) := by decide +kernel
theorem dX2_matchingsOf_70 : decode cX2_matchingsOf 70 = .ok (.goto (-59), 3) := by decide +kernel
theorem dX2_matchingsOf_73 : decode cX2_matchingsOf 73 = .ok (.iload 4, 2) := by decide +kernel
theorem dX2_matchingsOf_75 : decode cX2_matchingsOf 75 = .ok (.iload_n 2, 1) := by decide +kernel
theorem dX2_matchingsOf_76 : decode cX2_matchingsOf 76 = .ok (.invokestatic 41, 3) := by decide +kernel
theorem dX2_matchingsOf_79 : decode cX2_matchingsOf 79 = .ok (.ireturn, 1) := by decide +kernel
theorem dX3_init_0 : decode cX3_init 0 = .ok (.aload_n 0, 1) := by decide +kernel
theorem dX3_init_1 : decode cX3_init 1 = .ok (.invokespecial 3, 3) := by decide +kernel
theorem dX3_init_4 : decode cX3_init 4 = .ok (.aload_n 0, 1) := by decide +kernel
theorem dX3_init_5 : decode cX3_init 5 = .ok (.iconst 0, 1) := by decide +kernel
theorem dX3_init_6 : decode cX3_init 6 = .ok (.putfield 9, 3) := by decide +kernel
theorem dX3_init_9 : decode cX3_init 9 = .ok (.aload_n 0, 1) := by decide +kernel
theorem dX3_init_10 : decode cX3_init 10 = .ok (.iconst 0, 1) := by decide +kernel
theorem dX3_init_11 : decode cX3_init 11 = .ok (.putfield 15, 3) := by decide +kernel
theorem dX3_init_14 : decode cX3_init 14 = .ok (.aload_n 0, 1) := by decide +kernel
theorem dX3_init_15 : decode cX3_init 15 = .ok (.bipush 16, 2) := by decide +kernel
theorem dX3_init_17 : decode cX3_init 17 = .ok (.newarray .int, 2) := by decide +kernel
theorem dX3_init_19 : decode cX3_init 19 = .ok (.putfield 18, 3) := by decide +kernel
theorem dX3_init_22 : decode cX3_init 22 = .ok (.return_, 1) := by decide +kernel
theorem dX3_fill_0 : decode cX3_fill 0 = .ok (.aload_n 1, 1) := by decide +kernel
theorem dX3_fill_1 : decode cX3_fill 1 = .ok (.invokevirtual 22, 3) := by decide +kernel
theorem dX3_fill_4 : decode cX3_fill 4 = .ok (.iconst 1, 1) := by decide +kernel
theorem dX3_fill_5 : decode cX3_fill 5 = .ok (.isub, 1) := by decide +kernel
theorem dX3_fill_6 : decode cX3_fill 6 = .ok (.iload_n 2, 1) := by decide +kernel
theorem dX3_fill_7 : decode cX3_fill 7 = .ok (.iconst (-1), 1) := by decide +kernel
theorem dX3_fill_8 : decode cX3_fill 8 = .ok (.ixor, 1) := by decide +kernel
theorem dX3_fill_9 : decode cX3_fill 9 = .ok (.iand, 1) := by decide +kernel
theorem dX3_fill_10 : decode cX3_fill 10 = .ok (.istore_n 3, 1) := by decide +kernel
theorem dX3_fill_11 : decode cX3_fill 11 = .ok (.aload_n 0, 1) := by decide +kernel
theorem dX3_fill_12 : decode cX3_fill 12 = .ok (.iconst 1, 1) := by decide +kernel
theorem dX3_fill_13 : decode cX3_fill 13 = .ok (.iload_n 2, 1) := by decide +kernel
theorem dX3_fill_14 : decode cX3_fill 14 = .ok (.invokestatic 28, 3) := by decide +kernel
theorem dX3_fill_17 : decode cX3_fill 17 = .ok (.ishl, 1) := by decide +kernel
theorem dX3_fill_18 : decode cX3_fill 18 = .ok (.putfield 9, 3) := by decide +kernel
theorem dX3_fill_21 : decode cX3_fill 21 = .ok (.aload_n 0, 1) := by decide +kernel
theorem dX3_fill_22 : decode cX3_fill 22 = .ok (.iconst 1, 1) := by decide +kernel
theorem dX3_fill_23 : decode cX3_fill 23 = .ok (.iload_n 3, 1) := by decide +kernel
theorem dX3_fill_24 : decode cX3_fill 24 = .ok (.invokestatic 28, 3) := by decide +kernel
theorem dX3_fill_27 : decode cX3_fill 27 = .ok (.ishl, 1) := by decide +kernel
theorem dX3_fill_28 : decode cX3_fill 28 = .ok (.putfield 15, 3) := by decide +kernel
theorem dX3_fill_31 : decode cX3_fill 31 = .ok (.iconst 0, 1) := by decide +kernel
theorem dX3_fill_32 : decode cX3_fill 32 = .ok (.istore 4, 2) := by decide +kernel
theorem dX3_fill_34 : decode cX3_fill 34 = .ok (.iload 4, 2) := by decide +kernel
theorem dX3_fill_36 : decode cX3_fill 36 = .ok (.aload_n 0, 1) := by decide +kernel
theorem dX3_fill_37 : decode cX3_fill 37 = .ok (.getfield 9, 3) := by decide +kernel
theorem dX3_fill_40 : decode cX3_fill 40 = .ok (.if_icmp .ge 64, 3) := by decide +kernel
theorem dX3_fill_43 : decode cX3_fill 43 = .ok (.iconst 0, 1) := by decide +kernel
theorem dX3_fill_44 : decode cX3_fill 44 = .ok (.istore 5, 2) := by decide +kernel
theorem dX3_fill_46 : decode cX3_fill 46 = .ok (.iload 5, 2) := by decide +kernel
theorem dX3_fill_48 : decode cX3_fill 48 = .ok (.aload_n 0, 1) := by decide +kernel
theorem dX3_fill_49 : decode cX3_fill 49 = .ok (.getfield 15, 3) := by decide +kernel
theorem dX3_fill_52 : decode cX3_fill 52 = .ok (.if_icmp .ge 46, 3) := by decide +kernel
theorem dX3_fill_55 : decode cX3_fill 55 = .ok (.iload 4, 2) := by decide +kernel
theorem dX3_fill_57 : decode cX3_fill 57 = .ok (.iload_n 2, 1) := by decide +kernel
theorem dX3_fill_58 : decode cX3_fill 58 = .ok (.invokestatic 34, 3) := by decide +kernel
theorem dX3_fill_61 : decode cX3_fill 61 = .ok (.iload 5, 2) := by decide +kernel
theorem dX3_fill_63 : decode cX3_fill 63 = .ok (.iload_n 3, 1) := by decide +kernel
theorem dX3_fill_64 : decode cX3_fill 64 = .ok (.invokestatic 34, 3) := by decide +kernel
theorem dX3_fill_67 : decode cX3_fill 67 = .ok (.ior, 1) := by decide +kernel
theorem dX3_fill_68 : decode cX3_fill 68 = .ok (.istore 6, 2) := by decide +kernel
theorem dX3_fill_70 : decode cX3_fill 70 = .ok (.aload_n 0, 1) := by decide +kernel
theorem dX3_fill_71 : decode cX3_fill 71 = .ok (.getfield 18, 3) := by decide +kernel
theorem dX3_fill_74 : decode cX3_fill 74 = .ok (.iload 4, 2) := by decide +kernel
theorem dX3_fill_76 : decode cX3_fill 76 = .ok (.aload_n 0, 1) := by decide +kernel
theorem dX3_fill_77 : decode cX3_fill 77 = .ok (.getfield 15, 3) := by decide +kernel
theorem dX3_fill_80 : decode cX3_fill 80 = .ok (.imul, 1) := by decide +kernel
theorem dX3_fill_81 : decode cX3_fill 81 = .ok (.iload 5, 2) := by decide +kernel
theorem dX3_fill_83 : decode cX3_fill 83 = .ok (.iadd, 1) := by decide +kernel
theorem dX3_fill_84 : decode cX3_fill 84 = .ok (.aload_n 1, 1) := by decide +kernel
theorem dX3_fill_85 : decode cX3_fill 85 = .ok (.getfield 38, 3) := by decide +kernel
theorem dX3_fill_88 : decode cX3_fill 88 = .ok (.iload 6, 2) := by decide +kernel
theorem dX3_fill_90 : decode cX3_fill 90 = .ok (.iaload, 1) := by decide +kernel
theorem dX3_fill_91 : decode cX3_fill 91 = .ok (.iastore, 1) := by decide +kernel
theorem dX3_fill_92 : decode cX3_fill 92 = .ok (.iinc 5 1, 3) := by decide +kernel
theorem dX3_fill_95 : decode cX3_fill 95 = .ok (.goto (-49), 3) := by decide +kernel
theorem dX3_fill_98 : decode cX3_fill 98 = .ok (.iinc 4 1, 3) := by decide +kernel
theorem dX3_fill_101 : decode cX3_fill 101 = .ok (.goto (-67), 3) := by decide +kernel
theorem dX3_fill_104 : decode cX3_fill 104 = .ok (.return_, 1) := by decide +kernel
theorem dX3_spread_0 : decode cX3_spread 0 = .ok (.iconst 0, 1) := by decide +kernel
theorem dX3_spread_1 : decode cX3_spread 1 = .ok (.istore_n 2, 1) := by decide +kernel
theorem dX3_spread_2 : decode cX3_spread 2 = .ok (.iconst 0, 1) := by decide +kernel
theorem dX3_spread_3 : decode cX3_spread 3 = .ok (.istore_n 3, 1) := by decide +kernel
theorem dX3_spread_4 : decode cX3_spread 4 = .ok (.iconst 0, 1) := by decide +kernel
theorem dX3_spread_5 : decode cX3_spread 5 = .ok (.istore 4, 2) := by decide +kernel
theorem dX3_spread_7 : decode cX3_spread 7 = .ok (.iload 4, 2) := by decide +kernel
theorem dX3_spread_9 : decode cX3_spread 9 = .ok (.iconst 4, 1) := by decide +kernel
theorem dX3_spread_10 : decode cX3_spread 10 = .ok (.if_icmp .ge 33, 3) := by decide +kernel
theorem dX3_spread_13 : decode cX3_spread 13 = .ok (.iload_n 1, 1) := by decide +kernel
theorem dX3_spread_14 : decode cX3_spread 14 = .ok (.iload 4, 2) := by decide +kernel
theorem dX3_spread_16 : decode cX3_spread 16 = .ok (.ishr, 1) := by decide +kernel
theorem dX3_spread_17 : decode cX3_spread 17 = .ok (.iconst 1, 1) := by decide +kernel
theorem dX3_spread_18 : decode cX3_spread 18 = .ok (.iand, 1) := by decide +kernel
theorem dX3_spread_19 : decode cX3_spread 19 = .ok (.iconst 1, 1) := by decide +kernel
theorem dX3_spread_20 : decode cX3_spread 20 = .ok (.if_icmp .ne 17, 3) := by decide +kernel
theorem dX3_spread_23 : decode cX3_spread 23 = .ok (.iload_n 2, 1) := by decide +kernel
theorem dX3_spread_24 : decode cX3_spread 24 = .ok (.iload_n 0, 1) := by decide +kernel
theorem dX3_spread_25 : decode cX3_spread 25 = .ok (.iload_n 3, 1) := by decide +kernel
theorem dX3_spread_26 : decode cX3_spread 26 = .ok (.ishr, 1) := by decide +kernel
theorem dX3_spread_27 : decode cX3_spread 27 = .ok (.iconst 1, 1) := by decide +kernel
theorem dX3_spread_28 : decode cX3_spread 28 = .ok (.iand, 1) := by decide +kernel
theorem dX3_spread_29 : decode cX3_spread 29 = .ok (.iload 4, 2) := by decide +kernel
theorem dX3_spread_31 : decode cX3_spread 31 = .ok (.ishl, 1) := by decide +kernel
theorem dX3_spread_32 : decode cX3_spread 32 = .ok (.ior, 1) := by decide +kernel
theorem dX3_spread_33 : decode cX3_spread 33 = .ok (.istore_n 2, 1) := by decide +kernel
theorem dX3_spread_34 : decode cX3_spread 34 = .ok (.iinc 3 1, 3) := by decide +kernel
theorem dX3_spread_37 : decode cX3_spread 37 = .ok (.iinc 4 1, 3) := by decide +kernel
theorem dX3_spread_40 : decode cX3_spread 40 = .ok (.goto (-33), 3) := by decide +kernel
theorem dX3_spread_43 : decode cX3_spread 43 = .ok (.iload_n 2, 1) := by decide +kernel
theorem dX3_spread_44 : decode cX3_spread 44 = .ok (.ireturn, 1) := by decide +kernel
theorem dX3_rankModulo_0 : decode cX3_rankModulo 0 = .ok (.iconst 0, 1) := by decide +kernel
theorem dX3_rankModulo_1 : decode cX3_rankModulo 1 = .ok (.istore_n 2, 1) := by decide +kernel
theorem dX3_rankModulo_2 : decode cX3_rankModulo 2 = .ok (.iconst 0, 1) := by decide +kernel
theorem dX3_rankModulo_3 : decode cX3_rankModulo 3 = .ok (.istore_n 3, 1) := by decide +kernel
theorem dX3_rankModulo_4 : decode cX3_rankModulo 4 = .ok (.iload_n 3, 1) := by decide +kernel
theorem dX3_rankModulo_5 : decode cX3_rankModulo 5 = .ok (.aload_n 0, 1) := by decide +kernel
theorem dX3_rankModulo_6 : decode cX3_rankModulo 6 = .ok (.getfield 15, 3) := by decide +kernel
theorem dX3_rankModulo_9 : decode cX3_rankModulo 9 = .ok (.if_icmp .ge 48, 3) := by decide +kernel
theorem dX3_rankModulo_12 : decode cX3_rankModulo 12 = .ok (.iload_n 2, 1) := by decide +kernel
theorem dX3_rankModulo_13 : decode cX3_rankModulo 13 = .ok (.aload_n 0, 1) := by decide +kernel
theorem dX3_rankModulo_14 : decode cX3_rankModulo 14 = .ok (.getfield 9, 3) := by decide +kernel
theorem dX3_rankModulo_17 : decode cX3_rankModulo 17 = .ok (.if_icmp .ge 40, 3) := by decide +kernel
theorem dX3_rankModulo_20 : decode cX3_rankModulo 20 = .ok (.aload_n 0, 1) := by decide +kernel
theorem dX3_rankModulo_21 : decode cX3_rankModulo 21 = .ok (.iload_n 2, 1) := by decide +kernel
theorem dX3_rankModulo_22 : decode cX3_rankModulo 22 = .ok (.iload_n 3, 1) := by decide +kernel
theorem dX3_rankModulo_23 : decode cX3_rankModulo 23 = .ok (.invokevirtual 41, 3) := by decide +kernel
theorem dX3_rankModulo_26 : decode cX3_rankModulo 26 = .ok (.istore 4, 2) := by decide +kernel
theorem dX3_rankModulo_28 : decode cX3_rankModulo 28 = .ok (.iload 4, 2) := by decide +kernel
theorem dX3_rankModulo_30 : decode cX3_rankModulo 30 = .ok (.iconst (-1), 1) := by decide +kernel
theorem dX3_rankModulo_31 : decode cX3_rankModulo 31 = .ok (.if_icmp .eq 20, 3) := by decide +kernel
theorem dX3_rankModulo_34 : decode cX3_rankModulo 34 = .ok (.aload_n 0, 1) := by decide +kernel
theorem dX3_rankModulo_35 : decode cX3_rankModulo 35 = .ok (.iload_n 2, 1) := by decide +kernel
theorem dX3_rankModulo_36 : decode cX3_rankModulo 36 = .ok (.iload 4, 2) := by decide +kernel
theorem dX3_rankModulo_38 : decode cX3_rankModulo 38 = .ok (.invokevirtual 44, 3) := by decide +kernel
theorem dX3_rankModulo_41 : decode cX3_rankModulo 41 = .ok (.aload_n 0, 1) := by decide +kernel
theorem dX3_rankModulo_42 : decode cX3_rankModulo 42 = .ok (.iload_n 2, 1) := by decide +kernel
theorem dX3_rankModulo_43 : decode cX3_rankModulo 43 = .ok (.iload_n 3, 1) := by decide +kernel
theorem dX3_rankModulo_44 : decode cX3_rankModulo 44 = .ok (.iload_n 1, 1) := by decide +kernel
theorem dX3_rankModulo_45 : decode cX3_rankModulo 45 = .ok (.invokevirtual 48, 3) := by decide +kernel
theorem dX3_rankModulo_48 : decode cX3_rankModulo 48 = .ok (.iinc 2 1, 3) := by decide +kernel
theorem dX3_rankModulo_51 : decode cX3_rankModulo 51 = .ok (.iinc 3 1, 3) := by decide +kernel
theorem dX3_rankModulo_54 : decode cX3_rankModulo 54 = .ok (.goto (-50), 3) := by decide +kernel
theorem dX3_rankModulo_57 : decode cX3_rankModulo 57 = .ok (.iload_n 2, 1) := by decide +kernel
theorem dX3_rankModulo_58 : decode cX3_rankModulo 58 = .ok (.ireturn, 1) := by decide +kernel
theorem dX3_rowWithout0_0 : decode cX3_rowWithout0 0 = .ok (.iload_n 1, 1) := by decide +kernel
theorem dX3_rowWithout0_1 : decode cX3_rowWithout0 1 = .ok (.istore_n 3, 1) := by decide +kernel
theorem dX3_rowWithout0_2 : decode cX3_rowWithout0 2 = .ok (.iload_n 3, 1) := by decide +kernel
theorem dX3_rowWithout0_3 : decode cX3_rowWithout0 3 = .ok (.aload_n 0, 1) := by decide +kernel
theorem dX3_rowWithout0_4 : decode cX3_rowWithout0 4 = .ok (.getfield 9, 3) := by decide +kernel
theorem dX3_rowWithout0_7 : decode cX3_rowWithout0 7 = .ok (.if_icmp .ge 27, 3) := by decide +kernel
theorem dX3_rowWithout0_10 : decode cX3_rowWithout0 10 = .ok (.aload_n 0, 1) := by decide +kernel
theorem dX3_rowWithout0_11 : decode cX3_rowWithout0 11 = .ok (.getfield 18, 3) := by decide +kernel
theorem dX3_rowWithout0_14 : decode cX3_rowWithout0 14 = .ok (.iload_n 3, 1) := by decide +kernel
theorem dX3_rowWithout0_15 : decode cX3_rowWithout0 15 = .ok (.aload_n 0, 1) := by decide +kernel
theorem dX3_rowWithout0_16 : decode cX3_rowWithout0 16 = .ok (.getfield 15, 3) := by decide +kernel
theorem dX3_rowWithout0_19 : decode cX3_rowWithout0 19 = .ok (.imul, 1) := by decide +kernel
theorem dX3_rowWithout0_20 : decode cX3_rowWithout0 20 = .ok (.iload_n 2, 1) := by decide +kernel
theorem dX3_rowWithout0_21 : decode cX3_rowWithout0 21 = .ok (.iadd, 1) := by decide +kernel
theorem dX3_rowWithout0_22 : decode cX3_rowWithout0 22 = .ok (.iaload, 1) := by decide +kernel
theorem dX3_rowWithout0_23 : decode cX3_rowWithout0 23 = .ok (.ifCond .eq 5, 3) := by decide +kernel
theorem dX3_rowWithout0_26 : decode cX3_rowWithout0 26 = .ok (.iload_n 3, 1) := by decide +kernel
theorem dX3_rowWithout0_27 : decode cX3_rowWithout0 27 = .ok (.ireturn, 1) := by decide +kernel
theorem dX3_rowWithout0_28 : decode cX3_rowWithout0 28 = .ok (.iinc 3 1, 3) := by decide +kernel
theorem dX3_rowWithout0_31 : decode cX3_rowWithout0 31 = .ok (.goto (-29), 3) := by decide +kernel
theorem dX3_rowWithout0_34 : decode cX3_rowWithout0 34 = .ok (.iconst (-1), 1) := by decide +kernel
theorem dX3_rowWithout0_35 : decode cX3_rowWithout0 35 = .ok (.ireturn, 1) := by decide +kernel
theorem dX3_exchangeRows_0 : decode cX3_exchangeRows 0 = .ok (.iconst 0, 1) := by decide +kernel
theorem dX3_exchangeRows_1 : decode cX3_exchangeRows 1 = .ok (.istore_n 3, 1) := by decide +kernel
theorem dX3_exchangeRows_2 : decode cX3_exchangeRows 2 = .ok (.iload_n 3, 1) := by decide +kernel
theorem dX3_exchangeRows_3 : decode cX3_exchangeRows 3 = .ok (.aload_n 0, 1) := by decide +kernel
theorem dX3_exchangeRows_4 : decode cX3_exchangeRows 4 = .ok (.getfield 15, 3) := by decide +kernel
theorem dX3_exchangeRows_7 : decode cX3_exchangeRows 7 = .ok (.if_icmp .ge 65, 3) := by decide +kernel
theorem dX3_exchangeRows_10 : decode cX3_exchangeRows 10 = .ok (.aload_n 0, 1) := by decide +kernel
theorem dX3_exchangeRows_11 : decode cX3_exchangeRows 11 = .ok (.getfield 18, 3) := by decide +kernel
theorem dX3_exchangeRows_14 : decode cX3_exchangeRows 14 = .ok (.iload_n 1, 1) := by decide +kernel
theorem dX3_exchangeRows_15 : decode cX3_exchangeRows 15 = .ok (.aload_n 0, 1) := by decide +kernel
theorem dX3_exchangeRows_16 : decode cX3_exchangeRows 16 = .ok (.getfield 15, 3) := by decide +kernel
theorem dX3_exchangeRows_19 : decode cX3_exchangeRows 19 = .ok (.imul, 1) := by decide +kernel
theorem dX3_exchangeRows_20 : decode cX3_exchangeRows 20 = .ok (.iload_n 3, 1) := by decide +kernel
theorem dX3_exchangeRows_21 : decode cX3_exchangeRows 21 = .ok (.iadd, 1) := by decide +kernel
theorem dX3_exchangeRows_22 : decode cX3_exchangeRows 22 = .ok (.iaload, 1) := by decide +kernel
theorem dX3_exchangeRows_23 : decode cX3_exchangeRows 23 = .ok (.istore 4, 2) := by decide +kernel
theorem dX3_exchangeRows_25 : decode cX3_exchangeRows 25 = .ok (.aload_n 0, 1) := by decide +kernel
theorem dX3_exchangeRows_26 : decode cX3_exchangeRows 26 = .ok (.getfield 18, 3) := by decide +kernel
theorem dX3_exchangeRows_29 : decode cX3_exchangeRows 29 = .ok (.iload_n 1, 1) := by decide +kernel
theorem dX3_exchangeRows_30 : decode cX3_exchangeRows 30 = .ok (.aload_n 0, 1) := by decide +kernel
theorem dX3_exchangeRows_31 : decode cX3_exchangeRows 31 = .ok (.getfield 15, 3) := by decide +kernel
theorem dX3_exchangeRows_34 : decode cX3_exchangeRows 34 = .ok (.imul, 1) := by decide +kernel
theorem dX3_exchangeRows_35 : decode cX3_exchangeRows 35 = .ok (.iload_n 3, 1) := by decide +kernel
theorem dX3_exchangeRows_36 : decode cX3_exchangeRows 36 = .ok (.iadd, 1) := by decide +kernel
theorem dX3_exchangeRows_37 : decode cX3_exchangeRows 37 = .ok (.aload_n 0, 1) := by decide +kernel
theorem dX3_exchangeRows_38 : decode cX3_exchangeRows 38 = .ok (.getfield 18, 3) := by decide +kernel
theorem dX3_exchangeRows_41 : decode cX3_exchangeRows 41 = .ok (.iload_n 2, 1) := by decide +kernel
theorem dX3_exchangeRows_42 : decode cX3_exchangeRows 42 = .ok (.aload_n 0, 1) := by decide +kernel
theorem dX3_exchangeRows_43 : decode cX3_exchangeRows 43 = .ok (.getfield 15, 3) := by decide +kernel
theorem dX3_exchangeRows_46 : decode cX3_exchangeRows 46 = .ok (.imul, 1) := by decide +kernel
theorem dX3_exchangeRows_47 : decode cX3_exchangeRows 47 = .ok (.iload_n 3, 1) := by decide +kernel
theorem dX3_exchangeRows_48 : decode cX3_exchangeRows 48 = .ok (.iadd, 1) := by decide +kernel
theorem dX3_exchangeRows_49 : decode cX3_exchangeRows 49 = .ok (.iaload, 1) := by decide +kernel
theorem dX3_exchangeRows_50 : decode cX3_exchangeRows 50 = .ok (.iastore, 1) := by decide +kernel
theorem dX3_exchangeRows_51 : decode cX3_exchangeRows 51 = .ok (.aload_n 0, 1) := by decide +kernel
theorem dX3_exchangeRows_52 : decode cX3_exchangeRows 52 = .ok (.getfield 18, 3) := by decide +kernel
theorem dX3_exchangeRows_55 : decode cX3_exchangeRows 55 = .ok (.iload_n 2, 1) := by decide +kernel
theorem dX3_exchangeRows_56 : decode cX3_exchangeRows 56 = .ok (.aload_n 0, 1) := by decide +kernel
theorem dX3_exchangeRows_57 : decode cX3_exchangeRows 57 = .ok (.getfield 15, 3) := by decide +kernel
theorem dX3_exchangeRows_60 : decode cX3_exchangeRows 60 = .ok (.imul, 1) := by decide +kernel
theorem dX3_exchangeRows_61 : decode cX3_exchangeRows 61 = .ok (.iload_n 3, 1) := by decide +kernel
theorem dX3_exchangeRows_62 : decode cX3_exchangeRows 62 = .ok (.iadd, 1) := by decide +kernel
theorem dX3_exchangeRows_63 : decode cX3_exchangeRows 63 = .ok (.iload 4, 2) := by decide +kernel
theorem dX3_exchangeRows_65 : decode cX3_exchangeRows 65 = .ok (.iastore, 1) := by decide +kernel
theorem dX3_exchangeRows_66 : decode cX3_exchangeRows 66 = .ok (.iinc 3 1, 3) := by decide +kernel
theorem dX3_exchangeRows_69 : decode cX3_exchangeRows 69 = .ok (.goto (-67), 3) := by decide +kernel
theorem dX3_exchangeRows_72 : decode cX3_exchangeRows 72 = .ok (.return_, 1) := by decide +kernel
theorem dX3_clearBelow_0 : decode cX3_clearBelow 0 = .ok (.aload_n 0, 1) := by decide +kernel
theorem dX3_clearBelow_1 : decode cX3_clearBelow 1 = .ok (.getfield 18, 3) := by decide +kernel
theorem dX3_clearBelow_4 : decode cX3_clearBelow 4 = .ok (.iload_n 1, 1) := by decide +kernel
theorem dX3_clearBelow_5 : decode cX3_clearBelow 5 = .ok (.aload_n 0, 1) := by decide +kernel
theorem dX3_clearBelow_6 : decode cX3_clearBelow 6 = .ok (.getfield 15, 3) := by decide +kernel
theorem dX3_clearBelow_9 : decode cX3_clearBelow 9 = .ok (.imul, 1) := by decide +kernel
theorem dX3_clearBelow_10 : decode cX3_clearBelow 10 = .ok (.iload_n 2, 1) := by decide +kernel
theorem dX3_clearBelow_11 : decode cX3_clearBelow 11 = .ok (.iadd, 1) := by decide +kernel
theorem dX3_clearBelow_12 : decode cX3_clearBelow 12 = .ok (.iaload, 1) := by decide +kernel
theorem dX3_clearBelow_13 : decode cX3_clearBelow 13 = .ok (.istore 4, 2) := by decide +kernel
theorem dX3_clearBelow_15 : decode cX3_clearBelow 15 = .ok (.iload_n 1, 1) := by decide +kernel
theorem dX3_clearBelow_16 : decode cX3_clearBelow 16 = .ok (.iconst 1, 1) := by decide +kernel
theorem dX3_clearBelow_17 : decode cX3_clearBelow 17 = .ok (.iadd, 1) := by decide +kernel
theorem dX3_clearBelow_18 : decode cX3_clearBelow 18 = .ok (.istore 5, 2) := by decide +kernel
theorem dX3_clearBelow_20 : decode cX3_clearBelow 20 = .ok (.iload 5, 2) := by decide +kernel
theorem dX3_clearBelow_22 : decode cX3_clearBelow 22 = .ok (.aload_n 0, 1) := by decide +kernel
theorem dX3_clearBelow_23 : decode cX3_clearBelow 23 = .ok (.getfield 9, 3) := by decide +kernel
theorem dX3_clearBelow_26 : decode cX3_clearBelow 26 = .ok (.if_icmp .ge 102, 3) := by decide +kernel
theorem dX3_clearBelow_29 : decode cX3_clearBelow 29 = .ok (.aload_n 0, 1) := by decide +kernel
theorem dX3_clearBelow_30 : decode cX3_clearBelow 30 = .ok (.getfield 18, 3) := by decide +kernel
theorem dX3_clearBelow_33 : decode cX3_clearBelow 33 = .ok (.iload 5, 2) := by decide +kernel
theorem dX3_clearBelow_35 : decode cX3_clearBelow 35 = .ok (.aload_n 0, 1) := by decide +kernel
theorem dX3_clearBelow_36 : decode cX3_clearBelow 36 = .ok (.getfield 15, 3) := by decide +kernel
theorem dX3_clearBelow_39 : decode cX3_clearBelow 39 = .ok (.imul, 1) := by decide +kernel
theorem dX3_clearBelow_40 : decode cX3_clearBelow 40 = .ok (.iload_n 2, 1) := by decide +kernel
theorem dX3_clearBelow_41 : decode cX3_clearBelow 41 = .ok (.iadd, 1) := by decide +kernel
theorem dX3_clearBelow_42 : decode cX3_clearBelow 42 = .ok (.iaload, 1) := by decide +kernel
theorem dX3_clearBelow_43 : decode cX3_clearBelow 43 = .ok (.istore 6, 2) := by decide +kernel
theorem dX3_clearBelow_45 : decode cX3_clearBelow 45 = .ok (.iconst 0, 1) := by decide +kernel
theorem dX3_clearBelow_46 : decode cX3_clearBelow 46 = .ok (.istore 7, 2) := by decide +kernel
theorem dX3_clearBelow_48 : decode cX3_clearBelow 48 = .ok (.iload 7, 2) := by decide +kernel
theorem dX3_clearBelow_50 : decode cX3_clearBelow 50 = .ok (.aload_n 0, 1) := by decide +kernel
theorem dX3_clearBelow_51 : decode cX3_clearBelow 51 = .ok (.getfield 15, 3) := by decide +kernel
theorem dX3_clearBelow_54 : decode cX3_clearBelow 54 = .ok (.if_icmp .ge 68, 3) := by decide +kernel
theorem dX3_clearBelow_57 : decode cX3_clearBelow 57 = .ok (.aload_n 0, 1) := by decide +kernel
theorem dX3_clearBelow_58 : decode cX3_clearBelow 58 = .ok (.getfield 18, 3) := by decide +kernel
theorem dX3_clearBelow_61 : decode cX3_clearBelow 61 = .ok (.iload 5, 2) := by decide +kernel
theorem dX3_clearBelow_63 : decode cX3_clearBelow 63 = .ok (.aload_n 0, 1) := by decide +kernel
theorem dX3_clearBelow_64 : decode cX3_clearBelow 64 = .ok (.getfield 15, 3) := by decide +kernel
theorem dX3_clearBelow_67 : decode cX3_clearBelow 67 = .ok (.imul, 1) := by decide +kernel
theorem dX3_clearBelow_68 : decode cX3_clearBelow 68 = .ok (.iload 7, 2) := by decide +kernel
theorem dX3_clearBelow_70 : decode cX3_clearBelow 70 = .ok (.iadd, 1) := by decide +kernel
theorem dX3_clearBelow_71 : decode cX3_clearBelow 71 = .ok (.iaload, 1) := by decide +kernel
theorem dX3_clearBelow_72 : decode cX3_clearBelow 72 = .ok (.iload 4, 2) := by decide +kernel
theorem dX3_clearBelow_74 : decode cX3_clearBelow 74 = .ok (.imul, 1) := by decide +kernel
theorem dX3_clearBelow_75 : decode cX3_clearBelow 75 = .ok (.aload_n 0, 1) := by decide +kernel
theorem dX3_clearBelow_76 : decode cX3_clearBelow 76 = .ok (.getfield 18, 3) := by decide +kernel
theorem dX3_clearBelow_79 : decode cX3_clearBelow 79 = .ok (.iload_n 1, 1) := by decide +kernel
theorem dX3_clearBelow_80 : decode cX3_clearBelow 80 = .ok (.aload_n 0, 1) := by decide +kernel
theorem dX3_clearBelow_81 : decode cX3_clearBelow 81 = .ok (.getfield 15, 3) := by decide +kernel
theorem dX3_clearBelow_84 : decode cX3_clearBelow 84 = .ok (.imul, 1) := by decide +kernel
theorem dX3_clearBelow_85 : decode cX3_clearBelow 85 = .ok (.iload 7, 2) := by decide +kernel
theorem dX3_clearBelow_87 : decode cX3_clearBelow 87 = .ok (.iadd, 1) := by decide +kernel
theorem dX3_clearBelow_88 : decode cX3_clearBelow 88 = .ok (.iaload, 1) := by decide +kernel
theorem dX3_clearBelow_89 : decode cX3_clearBelow 89 = .ok (.iload 6, 2) := by decide +kernel
theorem dX3_clearBelow_91 : decode cX3_clearBelow 91 = .ok (.imul, 1) := by decide +kernel
theorem dX3_clearBelow_92 : decode cX3_clearBelow 92 = .ok (.isub, 1) := by decide +kernel
theorem dX3_clearBelow_93 : decode cX3_clearBelow 93 = .ok (.istore 8, 2) := by decide +kernel
theorem dX3_clearBelow_95 : decode cX3_clearBelow 95 = .ok (.aload_n 0, 1) := by decide +kernel
theorem dX3_clearBelow_96 : decode cX3_clearBelow 96 = .ok (.getfield 18, 3) := by decide +kernel
theorem dX3_clearBelow_99 : decode cX3_clearBelow 99 = .ok (.iload 5, 2) := by decide +kernel
theorem dX3_clearBelow_101 : decode cX3_clearBelow 101 = .ok (.aload_n 0, 1) := by decide +kernel
theorem dX3_clearBelow_102 : decode cX3_clearBelow 102 = .ok (.getfield 15, 3) := by decide +kernel
theorem dX3_clearBelow_105 : decode cX3_clearBelow 105 = .ok (.imul, 1) := by decide +kernel
theorem dX3_clearBelow_106 : decode cX3_clearBelow 106 = .ok (.iload 7, 2) := by decide +kernel
theorem dX3_clearBelow_108 : decode cX3_clearBelow 108 = .ok (.iadd, 1) := by decide +kernel
theorem dX3_clearBelow_109 : decode cX3_clearBelow 109 = .ok (.iload 8, 2) := by decide +kernel
theorem dX3_clearBelow_111 : decode cX3_clearBelow 111 = .ok (.iload_n 3, 1) := by decide +kernel
theorem dX3_clearBelow_112 : decode cX3_clearBelow 112 = .ok (.invokestatic 52, 3) := by decide +kernel
theorem dX3_clearBelow_115 : decode cX3_clearBelow 115 = .ok (.iastore, 1) := by decide +kernel
theorem dX3_clearBelow_116 : decode cX3_clearBelow 116 = .ok (.iinc 7 1, 3) := by decide +kernel
theorem dX3_clearBelow_119 : decode cX3_clearBelow 119 = .ok (.goto (-71), 3) := by decide +kernel
theorem dX3_clearBelow_122 : decode cX3_clearBelow 122 = .ok (.iinc 5 1, 3) := by decide +kernel
theorem dX3_clearBelow_125 : decode cX3_clearBelow 125 = .ok (.goto (-105), 3) := by decide +kernel
theorem dX3_clearBelow_128 : decode cX3_clearBelow 128 = .ok (.return_, 1) := by decide +kernel
theorem dX4_init_0 : decode cX4_init 0 = .ok (.aload_n 0, 1) := by decide +kernel
theorem dX4_init_1 : decode cX4_init 1 = .ok (.invokespecial 3, 3) := by decide +kernel
theorem dX4_init_4 : decode cX4_init 4 = .ok (.aload_n 0, 1) := by decide +kernel
theorem dX4_init_5 : decode cX4_init 5 = .ok (.iconst 0, 1) := by decide +kernel
theorem dX4_init_6 : decode cX4_init 6 = .ok (.putfield 9, 3) := by decide +kernel
theorem dX4_init_9 : decode cX4_init 9 = .ok (.aload_n 0, 1) := by decide +kernel
theorem dX4_init_10 : decode cX4_init 10 = .ok (.iconst 0, 1) := by decide +kernel
theorem dX4_init_11 : decode cX4_init 11 = .ok (.putfield 15, 3) := by decide +kernel
theorem dX4_init_14 : decode cX4_init 14 = .ok (.aload_n 0, 1) := by decide +kernel
theorem dX4_init_15 : decode cX4_init 15 = .ok (.bipush 6, 2) := by decide +kernel
theorem dX4_init_17 : decode cX4_init 17 = .ok (.anewarray 18, 3) := by decide +kernel
theorem dX4_init_20 : decode cX4_init 20 = .ok (.putfield 20, 3) := by decide +kernel
theorem dX4_init_23 : decode cX4_init 23 = .ok (.aload_n 0, 1) := by decide +kernel
theorem dX4_init_24 : decode cX4_init 24 = .ok (.bipush 20, 2) := by decide +kernel
theorem dX4_init_26 : decode cX4_init 26 = .ok (.newarray .int, 2) := by decide +kernel
theorem dX4_init_28 : decode cX4_init 28 = .ok (.putfield 24, 3) := by decide +kernel
theorem dX4_init_31 : decode cX4_init 31 = .ok (.iconst 0, 1) := by decide +kernel
theorem dX4_init_32 : decode cX4_init 32 = .ok (.istore_n 1, 1) := by decide +kernel
theorem dX4_init_33 : decode cX4_init 33 = .ok (.iload_n 1, 1) := by decide +kernel
theorem dX4_init_34 : decode cX4_init 34 = .ok (.bipush 6, 2) := by decide +kernel
theorem dX4_init_36 : decode cX4_init 36 = .ok (.if_icmp .ge 22, 3) := by decide +kernel
theorem dX4_init_39 : decode cX4_init 39 = .ok (.aload_n 0, 1) := by decide +kernel
theorem dX4_init_40 : decode cX4_init 40 = .ok (.getfield 20, 3) := by decide +kernel
theorem dX4_init_43 : decode cX4_init 43 = .ok (.iload_n 1, 1) := by decide +kernel
theorem dX4_init_44 : decode cX4_init 44 = .ok (.new 18, 3) := by decide +kernel
theorem dX4_init_47 : decode cX4_init 47 = .ok (.dup, 1) := by decide +kernel
theorem dX4_init_48 : decode cX4_init 48 = .ok (.invokespecial 28, 3) := by decide +kernel
theorem dX4_init_51 : decode cX4_init 51 = .ok (.aastore, 1) := by decide +kernel
theorem dX4_init_52 : decode cX4_init 52 = .ok (.iinc 1 1, 3) := by decide +kernel
theorem dX4_init_55 : decode cX4_init 55 = .ok (.goto (-22), 3) := by decide +kernel
theorem dX4_init_58 : decode cX4_init 58 = .ok (.return_, 1) := by decide +kernel
theorem dX4_copyFrom_0 : decode cX4_copyFrom 0 = .ok (.aload_n 0, 1) := by decide +kernel
theorem dX4_copyFrom_1 : decode cX4_copyFrom 1 = .ok (.aload_n 1, 1) := by decide +kernel
theorem dX4_copyFrom_2 : decode cX4_copyFrom 2 = .ok (.getfield 9, 3) := by decide +kernel
theorem dX4_copyFrom_5 : decode cX4_copyFrom 5 = .ok (.putfield 9, 3) := by decide +kernel
theorem dX4_copyFrom_8 : decode cX4_copyFrom 8 = .ok (.aload_n 0, 1) := by decide +kernel
theorem dX4_copyFrom_9 : decode cX4_copyFrom 9 = .ok (.aload_n 1, 1) := by decide +kernel
theorem dX4_copyFrom_10 : decode cX4_copyFrom 10 = .ok (.getfield 15, 3) := by decide +kernel
theorem dX4_copyFrom_13 : decode cX4_copyFrom 13 = .ok (.putfield 15, 3) := by decide +kernel
theorem dX4_copyFrom_16 : decode cX4_copyFrom 16 = .ok (.iconst 0, 1) := by decide +kernel
theorem dX4_copyFrom_17 : decode cX4_copyFrom 17 = .ok (.istore_n 2, 1) := by decide +kernel
theorem dX4_copyFrom_18 : decode cX4_copyFrom 18 = .ok (.iload_n 2, 1) := by decide +kernel
theorem dX4_copyFrom_19 : decode cX4_copyFrom 19 = .ok (.aload_n 0, 1) := by decide +kernel
theorem dX4_copyFrom_20 : decode cX4_copyFrom 20 = .ok (.getfield 9, 3) := by decide +kernel
theorem dX4_copyFrom_23 : decode cX4_copyFrom 23 = .ok (.if_icmp .ge 24, 3) := by decide +kernel
theorem dX4_copyFrom_26 : decode cX4_copyFrom 26 = .ok (.aload_n 0, 1) := by decide +kernel
theorem dX4_copyFrom_27 : decode cX4_copyFrom 27 = .ok (.getfield 20, 3) := by decide +kernel
theorem dX4_copyFrom_30 : decode cX4_copyFrom 30 = .ok (.iload_n 2, 1) := by decide +kernel
theorem dX4_copyFrom_31 : decode cX4_copyFrom 31 = .ok (.aaload, 1) := by decide +kernel
theorem dX4_copyFrom_32 : decode cX4_copyFrom 32 = .ok (.aload_n 1, 1) := by decide +kernel
theorem dX4_copyFrom_33 : decode cX4_copyFrom 33 = .ok (.getfield 20, 3) := by decide +kernel
theorem dX4_copyFrom_36 : decode cX4_copyFrom 36 = .ok (.iload_n 2, 1) := by decide +kernel
theorem dX4_copyFrom_37 : decode cX4_copyFrom 37 = .ok (.aaload, 1) := by decide +kernel
theorem dX4_copyFrom_38 : decode cX4_copyFrom 38 = .ok (.invokevirtual 29, 3) := by decide +kernel
theorem dX4_copyFrom_41 : decode cX4_copyFrom 41 = .ok (.iinc 2 1, 3) := by decide +kernel
theorem dX4_copyFrom_44 : decode cX4_copyFrom 44 = .ok (.goto (-26), 3) := by decide +kernel
theorem dX4_copyFrom_47 : decode cX4_copyFrom 47 = .ok (.aload_n 1, 1) := by decide +kernel
theorem dX4_copyFrom_48 : decode cX4_copyFrom 48 = .ok (.getfield 24, 3) := by decide +kernel
theorem dX4_copyFrom_51 : decode cX4_copyFrom 51 = .ok (.iconst 0, 1) := by decide +kernel
theorem dX4_copyFrom_52 : decode cX4_copyFrom 52 = .ok (.aload_n 0, 1) := by decide +kernel
theorem dX4_copyFrom_53 : decode cX4_copyFrom 53 = .ok (.getfield 24, 3) := by decide +kernel
theorem dX4_copyFrom_56 : decode cX4_copyFrom 56 = .ok (.iconst 0, 1) := by decide +kernel
theorem dX4_copyFrom_57 : decode cX4_copyFrom 57 = .ok (.bipush 20, 2) := by decide +kernel
theorem dX4_copyFrom_59 : decode cX4_copyFrom 59 = .ok (.invokestatic 33, 3) := by decide +kernel
theorem dX4_copyFrom_62 : decode cX4_copyFrom 62 = .ok (.return_, 1) := by decide +kernel
theorem dX4_hasNode_0 : decode cX4_hasNode 0 = .ok (.iload_n 1, 1) := by decide +kernel
theorem dX4_hasNode_1 : decode cX4_hasNode 1 = .ok (.ifCond .lt 15, 3) := by decide +kernel
theorem dX4_hasNode_4 : decode cX4_hasNode 4 = .ok (.iload_n 1, 1) := by decide +kernel
theorem dX4_hasNode_5 : decode cX4_hasNode 5 = .ok (.aload_n 0, 1) := by decide +kernel
theorem dX4_hasNode_6 : decode cX4_hasNode 6 = .ok (.getfield 9, 3) := by decide +kernel
theorem dX4_hasNode_9 : decode cX4_hasNode 9 = .ok (.if_icmp .ge 7, 3) := by decide +kernel
theorem dX4_hasNode_12 : decode cX4_hasNode 12 = .ok (.iconst 1, 1) := by decide +kernel
theorem dX4_hasNode_13 : decode cX4_hasNode 13 = .ok (.goto 4, 3) := by decide +kernel
theorem dX4_hasNode_16 : decode cX4_hasNode 16 = .ok (.iconst 0, 1) := by decide +kernel
theorem dX4_hasNode_17 : decode cX4_hasNode 17 = .ok (.ireturn, 1) := by decide +kernel
theorem dX4_hasLeg_0 : decode cX4_hasLeg 0 = .ok (.aload_n 0, 1) := by decide +kernel
theorem dX4_hasLeg_1 : decode cX4_hasLeg 1 = .ok (.iload_n 1, 1) := by decide +kernel
theorem dX4_hasLeg_2 : decode cX4_hasLeg 2 = .ok (.invokevirtual 39, 3) := by decide +kernel
theorem dX4_hasLeg_5 : decode cX4_hasLeg 5 = .ok (.ifCond .eq 24, 3) := by decide +kernel
theorem dX4_hasLeg_8 : decode cX4_hasLeg 8 = .ok (.iload_n 2, 1) := by decide +kernel
theorem dX4_hasLeg_9 : decode cX4_hasLeg 9 = .ok (.ifCond .lt 20, 3) := by decide +kernel
theorem dX4_hasLeg_12 : decode cX4_hasLeg 12 = .ok (.iload_n 2, 1) := by decide +kernel
theorem dX4_hasLeg_13 : decode cX4_hasLeg 13 = .ok (.aload_n 0, 1) := by decide +kernel
theorem dX4_hasLeg_14 : decode cX4_hasLeg 14 = .ok (.getfield 20, 3) := by decide +kernel
theorem dX4_hasLeg_17 : decode cX4_hasLeg 17 = .ok (.iload_n 1, 1) := by decide +kernel
theorem dX4_hasLeg_18 : decode cX4_hasLeg 18 = .ok (.aaload, 1) := by decide +kernel
theorem dX4_hasLeg_19 : decode cX4_hasLeg 19 = .ok (.getfield 43, 3) := by decide +kernel
theorem dX4_hasLeg_22 : decode cX4_hasLeg 22 = .ok (.if_icmp .ge 7, 3) := by decide +kernel
theorem dX4_hasLeg_25 : decode cX4_hasLeg 25 = .ok (.iconst 1, 1) := by decide +kernel
theorem dX4_hasLeg_26 : decode cX4_hasLeg 26 = .ok (.goto 4, 3) := by decide +kernel
theorem dX4_hasLeg_29 : decode cX4_hasLeg 29 = .ok (.iconst 0, 1) := by decide +kernel
theorem dX4_hasLeg_30 : decode cX4_hasLeg 30 = .ok (.ireturn, 1) := by decide +kernel
theorem dX4_hasWire_0 : decode cX4_hasWire 0 = .ok (.iload_n 1, 1) := by decide +kernel
theorem dX4_hasWire_1 : decode cX4_hasWire 1 = .ok (.ifCond .lt 15, 3) := by decide +kernel
theorem dX4_hasWire_4 : decode cX4_hasWire 4 = .ok (.iload_n 1, 1) := by decide +kernel
theorem dX4_hasWire_5 : decode cX4_hasWire 5 = .ok (.aload_n 0, 1) := by decide +kernel
theorem dX4_hasWire_6 : decode cX4_hasWire 6 = .ok (.getfield 15, 3) := by decide +kernel
theorem dX4_hasWire_9 : decode cX4_hasWire 9 = .ok (.if_icmp .ge 7, 3) := by decide +kernel
theorem dX4_hasWire_12 : decode cX4_hasWire 12 = .ok (.iconst 1, 1) := by decide +kernel
theorem dX4_hasWire_13 : decode cX4_hasWire 13 = .ok (.goto 4, 3) := by decide +kernel
theorem dX4_hasWire_16 : decode cX4_hasWire 16 = .ok (.iconst 0, 1) := by decide +kernel
theorem dX4_hasWire_17 : decode cX4_hasWire 17 = .ok (.ireturn, 1) := by decide +kernel
theorem dX4_hasWireAt_0 : decode cX4_hasWireAt 0 = .ok (.iconst 0, 1) := by decide +kernel
theorem dX4_hasWireAt_1 : decode cX4_hasWireAt 1 = .ok (.istore_n 2, 1) := by decide +kernel
theorem dX4_hasWireAt_2 : decode cX4_hasWireAt 2 = .ok (.iload_n 2, 1) := by decide +kernel
theorem dX4_hasWireAt_3 : decode cX4_hasWireAt 3 = .ok (.iconst 2, 1) := by decide +kernel
theorem dX4_hasWireAt_4 : decode cX4_hasWireAt 4 = .ok (.aload_n 0, 1) := by decide +kernel
theorem dX4_hasWireAt_5 : decode cX4_hasWireAt 5 = .ok (.getfield 15, 3) := by decide +kernel
theorem dX4_hasWireAt_8 : decode cX4_hasWireAt 8 = .ok (.imul, 1) := by decide +kernel
theorem dX4_hasWireAt_9 : decode cX4_hasWireAt 9 = .ok (.if_icmp .ge 21, 3) := by decide +kernel
theorem dX4_hasWireAt_12 : decode cX4_hasWireAt 12 = .ok (.aload_n 0, 1) := by decide +kernel
theorem dX4_hasWireAt_13 : decode cX4_hasWireAt 13 = .ok (.getfield 24, 3) := by decide +kernel
theorem dX4_hasWireAt_16 : decode cX4_hasWireAt 16 = .ok (.iload_n 2, 1) := by decide +kernel
theorem dX4_hasWireAt_17 : decode cX4_hasWireAt 17 = .ok (.iaload, 1) := by decide +kernel
theorem dX4_hasWireAt_18 : decode cX4_hasWireAt 18 = .ok (.iload_n 1, 1) := by decide +kernel
theorem dX4_hasWireAt_19 : decode cX4_hasWireAt 19 = .ok (.if_icmp .ne 5, 3) := by decide +kernel
theorem dX4_hasWireAt_22 : decode cX4_hasWireAt 22 = .ok (.iconst 1, 1) := by decide +kernel
theorem dX4_hasWireAt_23 : decode cX4_hasWireAt 23 = .ok (.ireturn, 1) := by decide +kernel
theorem dX4_hasWireAt_24 : decode cX4_hasWireAt 24 = .ok (.iinc 2 1, 3) := by decide +kernel
theorem dX4_hasWireAt_27 : decode cX4_hasWireAt 27 = .ok (.goto (-25), 3) := by decide +kernel
theorem dX4_hasWireAt_30 : decode cX4_hasWireAt 30 = .ok (.iconst 0, 1) := by decide +kernel
theorem dX4_hasWireAt_31 : decode cX4_hasWireAt 31 = .ok (.ireturn, 1) := by decide +kernel
theorem dX4_allNodes_0 : decode cX4_allNodes 0 = .ok (.iconst 1, 1) := by decide +kernel
theorem dX4_allNodes_1 : decode cX4_allNodes 1 = .ok (.aload_n 0, 1) := by decide +kernel
theorem dX4_allNodes_2 : decode cX4_allNodes 2 = .ok (.getfield 9, 3) := by decide +kernel
theorem dX4_allNodes_5 : decode cX4_allNodes 5 = .ok (.ishl, 1) := by decide +kernel
theorem dX4_allNodes_6 : decode cX4_allNodes 6 = .ok (.iconst 1, 1) := by decide +kernel
theorem dX4_allNodes_7 : decode cX4_allNodes 7 = .ok (.isub, 1) := by decide +kernel
theorem dX4_allNodes_8 : decode cX4_allNodes 8 = .ok (.ireturn, 1) := by decide +kernel
theorem dX4_openCount_0 : decode cX4_openCount 0 = .ok (.iconst 0, 1) := by decide +kernel
theorem dX4_openCount_1 : decode cX4_openCount 1 = .ok (.istore_n 1, 1) := by decide +kernel
theorem dX4_openCount_2 : decode cX4_openCount 2 = .ok (.iconst 0, 1) := by decide +kernel
theorem dX4_openCount_3 : decode cX4_openCount 3 = .ok (.istore_n 2, 1) := by decide +kernel
theorem dX4_openCount_4 : decode cX4_openCount 4 = .ok (.iload_n 2, 1) := by decide +kernel
theorem dX4_openCount_5 : decode cX4_openCount 5 = .ok (.aload_n 0, 1) := by decide +kernel
theorem dX4_openCount_6 : decode cX4_openCount 6 = .ok (.getfield 9, 3) := by decide +kernel
theorem dX4_openCount_9 : decode cX4_openCount 9 = .ok (.if_icmp .ge 21, 3) := by decide +kernel
theorem dX4_openCount_12 : decode cX4_openCount 12 = .ok (.iload_n 1, 1) := by decide +kernel
theorem dX4_openCount_13 : decode cX4_openCount 13 = .ok (.aload_n 0, 1) := by decide +kernel
theorem dX4_openCount_14 : decode cX4_openCount 14 = .ok (.getfield 20, 3) := by decide +kernel
theorem dX4_openCount_17 : decode cX4_openCount 17 = .ok (.iload_n 2, 1) := by decide +kernel
theorem dX4_openCount_18 : decode cX4_openCount 18 = .ok (.aaload, 1) := by decide +kernel
theorem dX4_openCount_19 : decode cX4_openCount 19 = .ok (.getfield 43, 3) := by decide +kernel
theorem dX4_openCount_22 : decode cX4_openCount 22 = .ok (.iadd, 1) := by decide +kernel
theorem dX4_openCount_23 : decode cX4_openCount 23 = .ok (.istore_n 1, 1) := by decide +kernel
theorem dX4_openCount_24 : decode cX4_openCount 24 = .ok (.iinc 2 1, 3) := by decide +kernel
theorem dX4_openCount_27 : decode cX4_openCount 27 = .ok (.goto (-23), 3) := by decide +kernel
theorem dX4_openCount_30 : decode cX4_openCount 30 = .ok (.iload_n 1, 1) := by decide +kernel
theorem dX4_openCount_31 : decode cX4_openCount 31 = .ok (.iconst 2, 1) := by decide +kernel
theorem dX4_openCount_32 : decode cX4_openCount 32 = .ok (.aload_n 0, 1) := by decide +kernel
theorem dX4_openCount_33 : decode cX4_openCount 33 = .ok (.getfield 15, 3) := by decide +kernel
theorem dX4_openCount_36 : decode cX4_openCount 36 = .ok (.imul, 1) := by decide +kernel
theorem dX4_openCount_37 : decode cX4_openCount 37 = .ok (.isub, 1) := by decide +kernel
theorem dX4_openCount_38 : decode cX4_openCount 38 = .ok (.ireturn, 1) := by decide +kernel
theorem dX4_openLeg_0 : decode cX4_openLeg 0 = .ok (.iconst 0, 1) := by decide +kernel
theorem dX4_openLeg_1 : decode cX4_openLeg 1 = .ok (.istore_n 2, 1) := by decide +kernel
theorem dX4_openLeg_2 : decode cX4_openLeg 2 = .ok (.iconst 0, 1) := by decide +kernel
theorem dX4_openLeg_3 : decode cX4_openLeg 3 = .ok (.istore_n 3, 1) := by decide +kernel
theorem dX4_openLeg_4 : decode cX4_openLeg 4 = .ok (.iload_n 3, 1) := by decide +kernel
theorem dX4_openLeg_5 : decode cX4_openLeg 5 = .ok (.iconst 4, 1) := by decide +kernel
theorem dX4_openLeg_6 : decode cX4_openLeg 6 = .ok (.aload_n 0, 1) := by decide +kernel
theorem dX4_openLeg_7 : decode cX4_openLeg 7 = .ok (.getfield 9, 3) := by decide +kernel
theorem dX4_openLeg_10 : decode cX4_openLeg 10 = .ok (.imul, 1) := by decide +kernel
theorem dX4_openLeg_11 : decode cX4_openLeg 11 = .ok (.if_icmp .ge 27, 3) := by decide +kernel
theorem dX4_openLeg_14 : decode cX4_openLeg 14 = .ok (.aload_n 0, 1) := by decide +kernel
theorem dX4_openLeg_15 : decode cX4_openLeg 15 = .ok (.iload_n 3, 1) := by decide +kernel
theorem dX4_openLeg_16 : decode cX4_openLeg 16 = .ok (.invokevirtual 46, 3) := by decide +kernel
theorem dX4_openLeg_19 : decode cX4_openLeg 19 = .ok (.ifCond .eq 13, 3) := by decide +kernel
theorem dX4_openLeg_22 : decode cX4_openLeg 22 = .ok (.iload_n 2, 1) := by decide +kernel
theorem dX4_openLeg_23 : decode cX4_openLeg 23 = .ok (.iload_n 1, 1) := by decide +kernel
theorem dX4_openLeg_24 : decode cX4_openLeg 24 = .ok (.if_icmp .ne 5, 3) := by decide +kernel
theorem dX4_openLeg_27 : decode cX4_openLeg 27 = .ok (.iload_n 3, 1) := by decide +kernel
theorem dX4_openLeg_28 : decode cX4_openLeg 28 = .ok (.ireturn, 1) := by decide +kernel
theorem dX4_openLeg_29 : decode cX4_openLeg 29 = .ok (.iinc 2 1, 3) := by decide +kernel
theorem dX4_openLeg_32 : decode cX4_openLeg 32 = .ok (.iinc 3 1, 3) := by decide +kernel
theorem dX4_openLeg_35 : decode cX4_openLeg 35 = .ok (.goto (-31), 3) := by decide +kernel
theorem dX4_openLeg_38 : decode cX4_openLeg 38 = .ok (.iconst (-1), 1) := by decide +kernel
theorem dX4_openLeg_39 : decode cX4_openLeg 39 = .ok (.ireturn, 1) := by decide +kernel
theorem dX4_isOpen_0 : decode cX4_isOpen 0 = .ok (.aload_n 0, 1) := by decide +kernel
theorem dX4_isOpen_1 : decode cX4_isOpen 1 = .ok (.iload_n 1, 1) := by decide +kernel
theorem dX4_isOpen_2 : decode cX4_isOpen 2 = .ok (.iconst 4, 1) := by decide +kernel
theorem dX4_isOpen_3 : decode cX4_isOpen 3 = .ok (.idiv, 1) := by decide +kernel
theorem dX4_isOpen_4 : decode cX4_isOpen 4 = .ok (.iload_n 1, 1) := by decide +kernel
theorem dX4_isOpen_5 : decode cX4_isOpen 5 = .ok (.iconst 4, 1) := by decide +kernel
theorem dX4_isOpen_6 : decode cX4_isOpen 6 = .ok (.irem, 1) := by decide +kernel
theorem dX4_isOpen_7 : decode cX4_isOpen 7 = .ok (.invokevirtual 49, 3) := by decide +kernel
theorem dX4_isOpen_10 : decode cX4_isOpen 10 = .ok (.ifCond .eq 15, 3) := by decide +kernel
theorem dX4_isOpen_13 : decode cX4_isOpen 13 = .ok (.aload_n 0, 1) := by decide +kernel
theorem dX4_isOpen_14 : decode cX4_isOpen 14 = .ok (.iload_n 1, 1) := by decide +kernel
theorem dX4_isOpen_15 : decode cX4_isOpen 15 = .ok (.invokevirtual 53, 3) := by decide +kernel
theorem dX4_isOpen_18 : decode cX4_isOpen 18 = .ok (.ifCond .ne 7, 3) := by decide +kernel
theorem dX4_isOpen_21 : decode cX4_isOpen 21 = .ok (.iconst 1, 1) := by decide +kernel
theorem dX4_isOpen_22 : decode cX4_isOpen 22 = .ok (.goto 4, 3) := by decide +kernel
theorem dX4_isOpen_25 : decode cX4_isOpen 25 = .ok (.iconst 0, 1) := by decide +kernel
theorem dX4_isOpen_26 : decode cX4_isOpen 26 = .ok (.ireturn, 1) := by decide +kernel
theorem dX4_isBetween_0 : decode cX4_isBetween 0 = .ok (.aload_n 0, 1) := by decide +kernel
theorem dX4_isBetween_1 : decode cX4_isBetween 1 = .ok (.getfield 24, 3) := by decide +kernel
theorem dX4_isBetween_4 : decode cX4_isBetween 4 = .ok (.iconst 2, 1) := by decide +kernel
theorem dX4_isBetween_5 : decode cX4_isBetween 5 = .ok (.iload_n 1, 1) := by decide +kernel
theorem dX4_isBetween_6 : decode cX4_isBetween 6 = .ok (.imul, 1) := by decide +kernel
theorem dX4_isBetween_7 : decode cX4_isBetween 7 = .ok (.iaload, 1) := by decide +kernel
theorem dX4_isBetween_8 : decode cX4_isBetween 8 = .ok (.iconst 4, 1) := by decide +kernel
theorem dX4_isBetween_9 : decode cX4_isBetween 9 = .ok (.idiv, 1) := by decide +kernel
theorem dX4_isBetween_10 : decode cX4_isBetween 10 = .ok (.istore_n 3, 1) := by decide +kernel
theorem dX4_isBetween_11 : decode cX4_isBetween 11 = .ok (.aload_n 0, 1) := by decide +kernel
theorem dX4_isBetween_12 : decode cX4_isBetween 12 = .ok (.getfield 24, 3) := by decide +kernel
theorem dX4_isBetween_15 : decode cX4_isBetween 15 = .ok (.iconst 2, 1) := by decide +kernel
theorem dX4_isBetween_16 : decode cX4_isBetween 16 = .ok (.iload_n 1, 1) := by decide +kernel
theorem dX4_isBetween_17 : decode cX4_isBetween 17 = .ok (.imul, 1) := by decide +kernel
theorem dX4_isBetween_18 : decode cX4_isBetween 18 = .ok (.iconst 1, 1) := by decide +kernel
theorem dX4_isBetween_19 : decode cX4_isBetween 19 = .ok (.iadd, 1) := by decide +kernel
theorem dX4_isBetween_20 : decode cX4_isBetween 20 = .ok (.iaload, 1) := by decide +kernel
theorem dX4_isBetween_21 : decode cX4_isBetween 21 = .ok (.iconst 4, 1) := by decide +kernel
theorem dX4_isBetween_22 : decode cX4_isBetween 22 = .ok (.idiv, 1) := by decide +kernel
theorem dX4_isBetween_23 : decode cX4_isBetween 23 = .ok (.istore 4, 2) := by decide +kernel
theorem dX4_isBetween_25 : decode cX4_isBetween 25 = .ok (.iload_n 2, 1) := by decide +kernel
theorem dX4_isBetween_26 : decode cX4_isBetween 26 = .ok (.iload_n 3, 1) := by decide +kernel
theorem dX4_isBetween_27 : decode cX4_isBetween 27 = .ok (.ishr, 1) := by decide +kernel
theorem dX4_isBetween_28 : decode cX4_isBetween 28 = .ok (.iconst 1, 1) := by decide +kernel
theorem dX4_isBetween_29 : decode cX4_isBetween 29 = .ok (.iand, 1) := by decide +kernel
theorem dX4_isBetween_30 : decode cX4_isBetween 30 = .ok (.iconst 1, 1) := by decide +kernel
theorem dX4_isBetween_31 : decode cX4_isBetween 31 = .ok (.if_icmp .ne 17, 3) := by decide +kernel
theorem dX4_isBetween_34 : decode cX4_isBetween 34 = .ok (.iload_n 2, 1) := by decide +kernel
theorem dX4_isBetween_35 : decode cX4_isBetween 35 = .ok (.iload 4, 2) := by decide +kernel
theorem dX4_isBetween_37 : decode cX4_isBetween 37 = .ok (.ishr, 1) := by decide +kernel
theorem dX4_isBetween_38 : decode cX4_isBetween 38 = .ok (.iconst 1, 1) := by decide +kernel
theorem dX4_isBetween_39 : decode cX4_isBetween 39 = .ok (.iand, 1) := by decide +kernel
theorem dX4_isBetween_40 : decode cX4_isBetween 40 = .ok (.iconst 1, 1) := by decide +kernel
theorem dX4_isBetween_41 : decode cX4_isBetween 41 = .ok (.if_icmp .ne 7, 3) := by decide +kernel
theorem dX4_isBetween_44 : decode cX4_isBetween 44 = .ok (.iconst 1, 1) := by decide +kernel
theorem dX4_isBetween_45 : decode cX4_isBetween 45 = .ok (.goto 4, 3) := by decide +kernel
theorem dX4_isBetween_48 : decode cX4_isBetween 48 = .ok (.iconst 0, 1) := by decide +kernel
theorem dX4_isBetween_49 : decode cX4_isBetween 49 = .ok (.ireturn, 1) := by decide +kernel
theorem dX4_addNode_0 : decode cX4_addNode 0 = .ok (.aload_n 0, 1) := by decide +kernel
theorem dX4_addNode_1 : decode cX4_addNode 1 = .ok (.getfield 9, 3) := by decide +kernel
theorem dX4_addNode_4 : decode cX4_addNode 4 = .ok (.bipush 6, 2) := by decide +kernel
theorem dX4_addNode_6 : decode cX4_addNode 6 = .ok (.if_icmp .ge 26, 3) := by decide +kernel
theorem dX4_addNode_9 : decode cX4_addNode 9 = .ok (.aload_n 0, 1) := by decide +kernel
theorem dX4_addNode_10 : decode cX4_addNode 10 = .ok (.getfield 20, 3) := by decide +kernel
theorem dX4_addNode_13 : decode cX4_addNode 13 = .ok (.aload_n 0, 1) := by decide +kernel
theorem dX4_addNode_14 : decode cX4_addNode 14 = .ok (.getfield 9, 3) := by decide +kernel
theorem dX4_addNode_17 : decode cX4_addNode 17 = .ok (.aaload, 1) := by decide +kernel
theorem dX4_addNode_18 : decode cX4_addNode 18 = .ok (.aload_n 1, 1) := by decide +kernel
theorem dX4_addNode_19 : decode cX4_addNode 19 = .ok (.invokevirtual 29, 3) := by decide +kernel
theorem dX4_addNode_22 : decode cX4_addNode 22 = .ok (.aload_n 0, 1) := by decide +kernel
theorem dX4_addNode_23 : decode cX4_addNode 23 = .ok (.dup, 1) := by decide +kernel
theorem dX4_addNode_24 : decode cX4_addNode 24 = .ok (.getfield 9, 3) := by decide +kernel
theorem dX4_addNode_27 : decode cX4_addNode 27 = .ok (.iconst 1, 1) := by decide +kernel
theorem dX4_addNode_28 : decode cX4_addNode 28 = .ok (.iadd, 1) := by decide +kernel
theorem dX4_addNode_29 : decode cX4_addNode 29 = .ok (.putfield 9, 3) := by decide +kernel
theorem dX4_addNode_32 : decode cX4_addNode 32 = .ok (.return_, 1) := by decide +kernel
theorem dX4_addWire_0 : decode cX4_addWire 0 = .ok (.aload_n 0, 1) := by decide +kernel
theorem dX4_addWire_1 : decode cX4_addWire 1 = .ok (.getfield 15, 3) := by decide +kernel
theorem dX4_addWire_4 : decode cX4_addWire 4 = .ok (.bipush 10, 2) := by decide +kernel
theorem dX4_addWire_6 : decode cX4_addWire 6 = .ok (.if_icmp .ge 39, 3) := by decide +kernel
theorem dX4_addWire_9 : decode cX4_addWire 9 = .ok (.aload_n 0, 1) := by decide +kernel
theorem dX4_addWire_10 : decode cX4_addWire 10 = .ok (.getfield 24, 3) := by decide +kernel
theorem dX4_addWire_13 : decode cX4_addWire 13 = .ok (.iconst 2, 1) := by decide +kernel
theorem dX4_addWire_14 : decode cX4_addWire 14 = .ok (.aload_n 0, 1) := by decide +kernel
theorem dX4_addWire_15 : decode cX4_addWire 15 = .ok (.getfield 15, 3) := by decide +kernel
theorem dX4_addWire_18 : decode cX4_addWire 18 = .ok (.imul, 1) := by decide +kernel
theorem dX4_addWire_19 : decode cX4_addWire 19 = .ok (.iload_n 1, 1) := by decide +kernel
theorem dX4_addWire_20 : decode cX4_addWire 20 = .ok (.iastore, 1) := by decide +kernel
theorem dX4_addWire_21 : decode cX4_addWire 21 = .ok (.aload_n 0, 1) := by decide +kernel
theorem dX4_addWire_22 : decode cX4_addWire 22 = .ok (.getfield 24, 3) := by decide +kernel
theorem dX4_addWire_25 : decode cX4_addWire 25 = .ok (.iconst 2, 1) := by decide +kernel
theorem dX4_addWire_26 : decode cX4_addWire 26 = .ok (.aload_n 0, 1) := by decide +kernel
theorem dX4_addWire_27 : decode cX4_addWire 27 = .ok (.getfield 15, 3) := by decide +kernel
theorem dX4_addWire_30 : decode cX4_addWire 30 = .ok (.imul, 1) := by decide +kernel
theorem dX4_addWire_31 : decode cX4_addWire 31 = .ok (.iconst 1, 1) := by decide +kernel
theorem dX4_addWire_32 : decode cX4_addWire 32 = .ok (.iadd, 1) := by decide +kernel
theorem dX4_addWire_33 : decode cX4_addWire 33 = .ok (.iload_n 2, 1) := by decide +kernel
theorem dX4_addWire_34 : decode cX4_addWire 34 = .ok (.iastore, 1) := by decide +kernel
theorem dX4_addWire_35 : decode cX4_addWire 35 = .ok (.aload_n 0, 1) := by decide +kernel
theorem dX4_addWire_36 : decode cX4_addWire 36 = .ok (.dup, 1) := by decide +kernel
theorem dX4_addWire_37 : decode cX4_addWire 37 = .ok (.getfield 15, 3) := by decide +kernel
theorem dX4_addWire_40 : decode cX4_addWire 40 = .ok (.iconst 1, 1) := by decide +kernel
theorem dX4_addWire_41 : decode cX4_addWire 41 = .ok (.iadd, 1) := by decide +kernel
theorem dX4_addWire_42 : decode cX4_addWire 42 = .ok (.putfield 15, 3) := by decide +kernel
theorem dX4_addWire_45 : decode cX4_addWire 45 = .ok (.return_, 1) := by decide +kernel
theorem dX4_removeWire_0 : decode cX4_removeWire 0 = .ok (.iconst 2, 1) := by decide +kernel
theorem dX4_removeWire_1 : decode cX4_removeWire 1 = .ok (.iload_n 1, 1) := by decide +kernel
theorem dX4_removeWire_2 : decode cX4_removeWire 2 = .ok (.imul, 1) := by decide +kernel
theorem dX4_removeWire_3 : decode cX4_removeWire 3 = .ok (.istore_n 2, 1) := by decide +kernel
theorem dX4_removeWire_4 : decode cX4_removeWire 4 = .ok (.iload_n 2, 1) := by decide +kernel
theorem dX4_removeWire_5 : decode cX4_removeWire 5 = .ok (.iconst 2, 1) := by decide +kernel
theorem dX4_removeWire_6 : decode cX4_removeWire 6 = .ok (.aload_n 0, 1) := by decide +kernel
theorem dX4_removeWire_7 : decode cX4_removeWire 7 = .ok (.getfield 15, 3) := by decide +kernel
theorem dX4_removeWire_10 : decode cX4_removeWire 10 = .ok (.iconst 1, 1) := by decide +kernel
theorem dX4_removeWire_11 : decode cX4_removeWire 11 = .ok (.isub, 1) := by decide +kernel
theorem dX4_removeWire_12 : decode cX4_removeWire 12 = .ok (.imul, 1) := by decide +kernel
theorem dX4_removeWire_13 : decode cX4_removeWire 13 = .ok (.if_icmp .ge 23, 3) := by decide +kernel
theorem dX4_removeWire_16 : decode cX4_removeWire 16 = .ok (.aload_n 0, 1) := by decide +kernel
theorem dX4_removeWire_17 : decode cX4_removeWire 17 = .ok (.getfield 24, 3) := by decide +kernel
theorem dX4_removeWire_20 : decode cX4_removeWire 20 = .ok (.iload_n 2, 1) := by decide +kernel
theorem dX4_removeWire_21 : decode cX4_removeWire 21 = .ok (.aload_n 0, 1) := by decide +kernel
theorem dX4_removeWire_22 : decode cX4_removeWire 22 = .ok (.getfield 24, 3) := by decide +kernel
theorem dX4_removeWire_25 : decode cX4_removeWire 25 = .ok (.iload_n 2, 1) := by decide +kernel
theorem dX4_removeWire_26 : decode cX4_removeWire 26 = .ok (.iconst 2, 1) := by decide +kernel
theorem dX4_removeWire_27 : decode cX4_removeWire 27 = .ok (.iadd, 1) := by decide +kernel
theorem dX4_removeWire_28 : decode cX4_removeWire 28 = .ok (.iaload, 1) := by decide +kernel
theorem dX4_removeWire_29 : decode cX4_removeWire 29 = .ok (.iastore, 1) := by decide +kernel
theorem dX4_removeWire_30 : decode cX4_removeWire 30 = .ok (.iinc 2 1, 3) := by decide +kernel
theorem dX4_removeWire_33 : decode cX4_removeWire 33 = .ok (.goto (-29), 3) := by decide +kernel
theorem dX4_removeWire_36 : decode cX4_removeWire 36 = .ok (.aload_n 0, 1) := by decide +kernel
theorem dX4_removeWire_37 : decode cX4_removeWire 37 = .ok (.dup, 1) := by decide +kernel
theorem dX4_removeWire_38 : decode cX4_removeWire 38 = .ok (.getfield 15, 3) := by decide +kernel
theorem dX4_removeWire_41 : decode cX4_removeWire 41 = .ok (.iconst 1, 1) := by decide +kernel
theorem dX4_removeWire_42 : decode cX4_removeWire 42 = .ok (.isub, 1) := by decide +kernel
theorem dX4_removeWire_43 : decode cX4_removeWire 43 = .ok (.putfield 15, 3) := by decide +kernel
theorem dX4_removeWire_46 : decode cX4_removeWire 46 = .ok (.return_, 1) := by decide +kernel
theorem dX5_init_0 : decode cX5_init 0 = .ok (.aload_n 0, 1) := by decide +kernel
theorem dX5_init_1 : decode cX5_init 1 = .ok (.invokespecial 3, 3) := by decide +kernel
theorem dX5_init_4 : decode cX5_init 4 = .ok (.aload_n 0, 1) := by decide +kernel
theorem dX5_init_5 : decode cX5_init 5 = .ok (.bipush 64, 2) := by decide +kernel
theorem dX5_init_7 : decode cX5_init 7 = .ok (.newarray .int, 2) := by decide +kernel
theorem dX5_init_9 : decode cX5_init 9 = .ok (.putfield 9, 3) := by decide +kernel
theorem dX5_init_12 : decode cX5_init 12 = .ok (.return_, 1) := by decide +kernel
theorem dX5_weigh_0 : decode cX5_weigh 0 = .ok (.aload_n 1, 1) := by decide +kernel
theorem dX5_weigh_1 : decode cX5_weigh 1 = .ok (.invokevirtual 15, 3) := by decide +kernel
theorem dX5_weigh_4 : decode cX5_weigh 4 = .ok (.istore_n 2, 1) := by decide +kernel
theorem dX5_weigh_5 : decode cX5_weigh 5 = .ok (.iload_n 2, 1) := by decide +kernel
theorem dX5_weigh_6 : decode cX5_weigh 6 = .ok (.ifCond .lt 29, 3) := by decide +kernel
theorem dX5_weigh_9 : decode cX5_weigh 9 = .ok (.aload_n 0, 1) := by decide +kernel
theorem dX5_weigh_10 : decode cX5_weigh 10 = .ok (.getfield 9, 3) := by decide +kernel
theorem dX5_weigh_13 : decode cX5_weigh 13 = .ok (.iload_n 2, 1) := by decide +kernel
theorem dX5_weigh_14 : decode cX5_weigh 14 = .ok (.aload_n 1, 1) := by decide +kernel
theorem dX5_weigh_15 : decode cX5_weigh 15 = .ok (.iload_n 2, 1) := by decide +kernel
theorem dX5_weigh_16 : decode cX5_weigh 16 = .ok (.invokestatic 21, 3) := by decide +kernel
theorem dX5_weigh_19 : decode cX5_weigh 19 = .ok (.aload_n 0, 1) := by decide +kernel
theorem dX5_weigh_20 : decode cX5_weigh 20 = .ok (.aload_n 1, 1) := by decide +kernel
theorem dX5_weigh_21 : decode cX5_weigh 21 = .ok (.iload_n 2, 1) := by decide +kernel
theorem dX5_weigh_22 : decode cX5_weigh 22 = .ok (.invokevirtual 25, 3) := by decide +kernel
theorem dX5_weigh_25 : decode cX5_weigh 25 = .ok (.invokestatic 28, 3) := by decide +kernel
theorem dX5_weigh_28 : decode cX5_weigh 28 = .ok (.iastore, 1) := by decide +kernel
theorem dX5_weigh_29 : decode cX5_weigh 29 = .ok (.iinc 2 (-1), 3) := by decide +kernel
theorem dX5_weigh_32 : decode cX5_weigh 32 = .ok (.goto (-27), 3) := by decide +kernel
theorem dX5_weigh_35 : decode cX5_weigh 35 = .ok (.return_, 1) := by decide +kernel
theorem dX5_leastWidth_0 : decode cX5_leastWidth 0 = .ok (.aload_n 0, 1) := by decide +kernel
theorem dX5_leastWidth_1 : decode cX5_leastWidth 1 = .ok (.getfield 9, 3) := by decide +kernel
theorem dX5_leastWidth_4 : decode cX5_leastWidth 4 = .ok (.iconst 0, 1) := by decide +kernel
theorem dX5_leastWidth_5 : decode cX5_leastWidth 5 = .ok (.iaload, 1) := by decide +kernel
theorem dX5_leastWidth_6 : decode cX5_leastWidth 6 = .ok (.ireturn, 1) := by decide +kernel
theorem dX5_bestNode_0 : decode cX5_bestNode 0 = .ok (.iconst 0, 1) := by decide +kernel
theorem dX5_bestNode_1 : decode cX5_bestNode 1 = .ok (.istore_n 3, 1) := by decide +kernel
theorem dX5_bestNode_2 : decode cX5_bestNode 2 = .ok (.iconst (-1), 1) := by decide +kernel
theorem dX5_bestNode_3 : decode cX5_bestNode 3 = .ok (.istore 4, 2) := by decide +kernel
theorem dX5_bestNode_5 : decode cX5_bestNode 5 = .ok (.iconst 0, 1) := by decide +kernel
theorem dX5_bestNode_6 : decode cX5_bestNode 6 = .ok (.istore 5, 2) := by decide +kernel
theorem dX5_bestNode_8 : decode cX5_bestNode 8 = .ok (.iload 5, 2) := by decide +kernel
theorem dX5_bestNode_10 : decode cX5_bestNode 10 = .ok (.iload_n 2, 1) := by decide +kernel
theorem dX5_bestNode_11 : decode cX5_bestNode 11 = .ok (.if_icmp .gt 43, 3) := by decide +kernel
theorem dX5_bestNode_14 : decode cX5_bestNode 14 = .ok (.iload 5, 2) := by decide +kernel
theorem dX5_bestNode_16 : decode cX5_bestNode 16 = .ok (.aload_n 1, 1) := by decide +kernel
theorem dX5_bestNode_17 : decode cX5_bestNode 17 = .ok (.getfield 34, 3) := by decide +kernel
theorem dX5_bestNode_20 : decode cX5_bestNode 20 = .ok (.if_icmp .ge 34, 3) := by decide +kernel
theorem dX5_bestNode_23 : decode cX5_bestNode 23 = .ok (.aload_n 0, 1) := by decide +kernel
theorem dX5_bestNode_24 : decode cX5_bestNode 24 = .ok (.aload_n 1, 1) := by decide +kernel
theorem dX5_bestNode_25 : decode cX5_bestNode 25 = .ok (.iload_n 3, 1) := by decide +kernel
theorem dX5_bestNode_26 : decode cX5_bestNode 26 = .ok (.invokevirtual 38, 3) := by decide +kernel
theorem dX5_bestNode_29 : decode cX5_bestNode 29 = .ok (.istore 4, 2) := by decide +kernel
theorem dX5_bestNode_31 : decode cX5_bestNode 31 = .ok (.iload_n 3, 1) := by decide +kernel
theorem dX5_bestNode_32 : decode cX5_bestNode 32 = .ok (.iload 4, 2) := by decide +kernel
theorem dX5_bestNode_34 : decode cX5_bestNode 34 = .ok (.iconst (-1), 1) := by decide +kernel
theorem dX5_bestNode_35 : decode cX5_bestNode 35 = .ok (.if_icmp .ne 7, 3) := by decide +kernel
theorem dX5_bestNode_38 : decode cX5_bestNode 38 = .ok (.iconst 0, 1) := by decide +kernel
theorem dX5_bestNode_39 : decode cX5_bestNode 39 = .ok (.goto 7, 3) := by decide +kernel
theorem dX5_bestNode_42 : decode cX5_bestNode 42 = .ok (.iconst 1, 1) := by decide +kernel
theorem dX5_bestNode_43 : decode cX5_bestNode 43 = .ok (.iload 4, 2) := by decide +kernel
theorem dX5_bestNode_45 : decode cX5_bestNode 45 = .ok (.ishl, 1) := by decide +kernel
theorem dX5_bestNode_46 : decode cX5_bestNode 46 = .ok (.ior, 1) := by decide +kernel
theorem dX5_bestNode_47 : decode cX5_bestNode 47 = .ok (.istore_n 3, 1) := by decide +kernel
theorem dX5_bestNode_48 : decode cX5_bestNode 48 = .ok (.iinc 5 1, 3) := by decide +kernel
theorem dX5_bestNode_51 : decode cX5_bestNode 51 = .ok (.goto (-43), 3) := by decide +kernel
theorem dX5_bestNode_54 : decode cX5_bestNode 54 = .ok (.iload 4, 2) := by decide +kernel
theorem dX5_bestNode_56 : decode cX5_bestNode 56 = .ok (.ireturn, 1) := by decide +kernel
theorem dX5_lowestGoodNode_0 : decode cX5_lowestGoodNode 0 = .ok (.iconst 0, 1) := by decide +kernel
theorem dX5_lowestGoodNode_1 : decode cX5_lowestGoodNode 1 = .ok (.istore_n 3, 1) := by decide +kernel
theorem dX5_lowestGoodNode_2 : decode cX5_lowestGoodNode 2 = .ok (.iload_n 3, 1) := by decide +kernel
theorem dX5_lowestGoodNode_3 : decode cX5_lowestGoodNode 3 = .ok (.aload_n 1, 1) := by decide +kernel
theorem dX5_lowestGoodNode_4 : decode cX5_lowestGoodNode 4 = .ok (.getfield 34, 3) := by decide +kernel
theorem dX5_lowestGoodNode_7 : decode cX5_lowestGoodNode 7 = .ok (.if_icmp .ge 38, 3) := by decide +kernel
theorem dX5_lowestGoodNode_10 : decode cX5_lowestGoodNode 10 = .ok (.iload_n 2, 1) := by decide +kernel
theorem dX5_lowestGoodNode_11 : decode cX5_lowestGoodNode 11 = .ok (.iload_n 3, 1) := by decide +kernel
theorem dX5_lowestGoodNode_12 : decode cX5_lowestGoodNode 12 = .ok (.ishr, 1) := by decide +kernel
theorem dX5_lowestGoodNode_13 : decode cX5_lowestGoodNode 13 = .ok (.iconst 1, 1) := by decide +kernel
theorem dX5_lowestGoodNode_14 : decode cX5_lowestGoodNode 14 = .ok (.iand, 1) := by decide +kernel
theorem dX5_lowestGoodNode_15 : decode cX5_lowestGoodNode 15 = .ok (.ifCond .ne 24, 3) := by decide +kernel
theorem dX5_lowestGoodNode_18 : decode cX5_lowestGoodNode 18 = .ok (.aload_n 0, 1) := by decide +kernel
theorem dX5_lowestGoodNode_19 : decode cX5_lowestGoodNode 19 = .ok (.getfield 9, 3) := by decide +kernel
theorem dX5_lowestGoodNode_22 : decode cX5_lowestGoodNode 22 = .ok (.iload_n 2, 1) := by decide +kernel
theorem dX5_lowestGoodNode_23 : decode cX5_lowestGoodNode 23 = .ok (.iconst 1, 1) := by decide +kernel
theorem dX5_lowestGoodNode_24 : decode cX5_lowestGoodNode 24 = .ok (.iload_n 3, 1) := by decide +kernel
theorem dX5_lowestGoodNode_25 : decode cX5_lowestGoodNode 25 = .ok (.ishl, 1) := by decide +kernel
theorem dX5_lowestGoodNode_26 : decode cX5_lowestGoodNode 26 = .ok (.ior, 1) := by decide +kernel
theorem dX5_lowestGoodNode_27 : decode cX5_lowestGoodNode 27 = .ok (.iaload, 1) := by decide +kernel
theorem dX5_lowestGoodNode_28 : decode cX5_lowestGoodNode 28 = .ok (.aload_n 0, 1) := by decide +kernel
theorem dX5_lowestGoodNode_29 : decode cX5_lowestGoodNode 29 = .ok (.getfield 9, 3) := by decide +kernel
theorem dX5_lowestGoodNode_32 : decode cX5_lowestGoodNode 32 = .ok (.iconst 0, 1) := by decide +kernel
theorem dX5_lowestGoodNode_33 : decode cX5_lowestGoodNode 33 = .ok (.iaload, 1) := by decide +kernel
theorem dX5_lowestGoodNode_34 : decode cX5_lowestGoodNode 34 = .ok (.if_icmp .gt 5, 3) := by decide +kernel
theorem dX5_lowestGoodNode_37 : decode cX5_lowestGoodNode 37 = .ok (.iload_n 3, 1) := by decide +kernel
theorem dX5_lowestGoodNode_38 : decode cX5_lowestGoodNode 38 = .ok (.ireturn, 1) := by decide +kernel
theorem dX5_lowestGoodNode_39 : decode cX5_lowestGoodNode 39 = .ok (.iinc 3 1, 3) := by decide +kernel
theorem dX5_lowestGoodNode_42 : decode cX5_lowestGoodNode 42 = .ok (.goto (-40), 3) := by decide +kernel
theorem dX5_lowestGoodNode_45 : decode cX5_lowestGoodNode 45 = .ok (.iconst (-1), 1) := by decide +kernel
theorem dX5_lowestGoodNode_46 : decode cX5_lowestGoodNode 46 = .ok (.ireturn, 1) := by decide +kernel
theorem dX5_leastBehind_0 : decode cX5_leastBehind 0 = .ok (.iload_n 2, 1) := by decide +kernel
theorem dX5_leastBehind_1 : decode cX5_leastBehind 1 = .ok (.aload_n 1, 1) := by decide +kernel
theorem dX5_leastBehind_2 : decode cX5_leastBehind 2 = .ok (.invokevirtual 15, 3) := by decide +kernel
theorem dX5_leastBehind_5 : decode cX5_leastBehind 5 = .ok (.if_icmp .ne 5, 3) := by decide +kernel
theorem dX5_leastBehind_8 : decode cX5_leastBehind 8 = .ok (.iconst 0, 1) := by decide +kernel
theorem dX5_leastBehind_9 : decode cX5_leastBehind 9 = .ok (.ireturn, 1) := by decide +kernel
theorem dX5_leastBehind_10 : decode cX5_leastBehind 10 = .ok (.bipush 24, 2) := by decide +kernel
theorem dX5_leastBehind_12 : decode cX5_leastBehind 12 = .ok (.istore_n 3, 1) := by decide +kernel
theorem dX5_leastBehind_13 : decode cX5_leastBehind 13 = .ok (.iconst 0, 1) := by decide +kernel
theorem dX5_leastBehind_14 : decode cX5_leastBehind 14 = .ok (.istore 4, 2) := by decide +kernel
theorem dX5_leastBehind_16 : decode cX5_leastBehind 16 = .ok (.iload 4, 2) := by decide +kernel
theorem dX5_leastBehind_18 : decode cX5_leastBehind 18 = .ok (.aload_n 1, 1) := by decide +kernel
theorem dX5_leastBehind_19 : decode cX5_leastBehind 19 = .ok (.getfield 34, 3) := by decide +kernel
theorem dX5_leastBehind_22 : decode cX5_leastBehind 22 = .ok (.if_icmp .ge 34, 3) := by decide +kernel
theorem dX5_leastBehind_25 : decode cX5_leastBehind 25 = .ok (.iload_n 2, 1) := by decide +kernel
theorem dX5_leastBehind_26 : decode cX5_leastBehind 26 = .ok (.iload 4, 2) := by decide +kernel
theorem dX5_leastBehind_28 : decode cX5_leastBehind 28 = .ok (.ishr, 1) := by decide +kernel
theorem dX5_leastBehind_29 : decode cX5_leastBehind 29 = .ok (.iconst 1, 1) := by decide +kernel
theorem dX5_leastBehind_30 : decode cX5_leastBehind 30 = .ok (.iand, 1) := by decide +kernel
theorem dX5_leastBehind_31 : decode cX5_leastBehind 31 = .ok (.ifCond .ne 19, 3) := by decide +kernel
theorem dX5_leastBehind_34 : decode cX5_leastBehind 34 = .ok (.iload_n 3, 1) := by decide +kernel
theorem dX5_leastBehind_35 : decode cX5_leastBehind 35 = .ok (.aload_n 0, 1) := by decide +kernel
theorem dX5_leastBehind_36 : decode cX5_leastBehind 36 = .ok (.getfield 9, 3) := by decide +kernel
theorem dX5_leastBehind_39 : decode cX5_leastBehind 39 = .ok (.iload_n 2, 1) := by decide +kernel
theorem dX5_leastBehind_40 : decode cX5_leastBehind 40 = .ok (.iconst 1, 1) := by decide +kernel
theorem dX5_leastBehind_41 : decode cX5_leastBehind 41 = .ok (.iload 4, 2) := by decide +kernel
theorem dX5_leastBehind_43 : decode cX5_leastBehind 43 = .ok (.ishl, 1) := by decide +kernel
theorem dX5_leastBehind_44 : decode cX5_leastBehind 44 = .ok (.ior, 1) := by decide +kernel
theorem dX5_leastBehind_45 : decode cX5_leastBehind 45 = .ok (.iaload, 1) := by decide +kernel
theorem dX5_leastBehind_46 : decode cX5_leastBehind 46 = .ok (.invokestatic 41, 3) := by decide +kernel
theorem dX5_leastBehind_49 : decode cX5_leastBehind 49 = .ok (.istore_n 3, 1) := by decide +kernel
theorem dX5_leastBehind_50 : decode cX5_leastBehind 50 = .ok (.iinc 4 1, 3) := by decide +kernel
theorem dX5_leastBehind_53 : decode cX5_leastBehind 53 = .ok (.goto (-37), 3) := by decide +kernel
theorem dX5_leastBehind_56 : decode cX5_leastBehind 56 = .ok (.iload_n 3, 1) := by decide +kernel
theorem dX5_leastBehind_57 : decode cX5_leastBehind 57 = .ok (.ireturn, 1) := by decide +kernel
theorem dX5_legsOut_0 : decode cX5_legsOut 0 = .ok (.iconst 0, 1) := by decide +kernel
theorem dX5_legsOut_1 : decode cX5_legsOut 1 = .ok (.istore_n 2, 1) := by decide +kernel
theorem dX5_legsOut_2 : decode cX5_legsOut 2 = .ok (.iconst 0, 1) := by decide +kernel
theorem dX5_legsOut_3 : decode cX5_legsOut 3 = .ok (.istore_n 3, 1) := by decide +kernel
theorem dX5_legsOut_4 : decode cX5_legsOut 4 = .ok (.iload_n 3, 1) := by decide +kernel
theorem dX5_legsOut_5 : decode cX5_legsOut 5 = .ok (.aload_n 0, 1) := by decide +kernel
theorem dX5_legsOut_6 : decode cX5_legsOut 6 = .ok (.getfield 34, 3) := by decide +kernel
theorem dX5_legsOut_9 : decode cX5_legsOut 9 = .ok (.if_icmp .ge 34, 3) := by decide +kernel
theorem dX5_legsOut_12 : decode cX5_legsOut 12 = .ok (.iload_n 2, 1) := by decide +kernel
theorem dX5_legsOut_13 : decode cX5_legsOut 13 = .ok (.iload_n 1, 1) := by decide +kernel
theorem dX5_legsOut_14 : decode cX5_legsOut 14 = .ok (.iload_n 3, 1) := by decide +kernel
theorem dX5_legsOut_15 : decode cX5_legsOut 15 = .ok (.ishr, 1) := by decide +kernel
theorem dX5_legsOut_16 : decode cX5_legsOut 16 = .ok (.iconst 1, 1) := by decide +kernel
theorem dX5_legsOut_17 : decode cX5_legsOut 17 = .ok (.iand, 1) := by decide +kernel
theorem dX5_legsOut_18 : decode cX5_legsOut 18 = .ok (.iconst 1, 1) := by decide +kernel
theorem dX5_legsOut_19 : decode cX5_legsOut 19 = .ok (.if_icmp .ne 15, 3) := by decide +kernel
theorem dX5_legsOut_22 : decode cX5_legsOut 22 = .ok (.aload_n 0, 1) := by decide +kernel
theorem dX5_legsOut_23 : decode cX5_legsOut 23 = .ok (.getfield 44, 3) := by decide +kernel
theorem dX5_legsOut_26 : decode cX5_legsOut 26 = .ok (.iload_n 3, 1) := by decide +kernel
theorem dX5_legsOut_27 : decode cX5_legsOut 27 = .ok (.aaload, 1) := by decide +kernel
theorem dX5_legsOut_28 : decode cX5_legsOut 28 = .ok (.getfield 48, 3) := by decide +kernel
theorem dX5_legsOut_31 : decode cX5_legsOut 31 = .ok (.goto 4, 3) := by decide +kernel
theorem dX5_legsOut_34 : decode cX5_legsOut 34 = .ok (.iconst 0, 1) := by decide +kernel
theorem dX5_legsOut_35 : decode cX5_legsOut 35 = .ok (.iadd, 1) := by decide +kernel
theorem dX5_legsOut_36 : decode cX5_legsOut 36 = .ok (.istore_n 2, 1) := by decide +kernel
theorem dX5_legsOut_37 : decode cX5_legsOut 37 = .ok (.iinc 3 1, 3) := by decide +kernel
theorem dX5_legsOut_40 : decode cX5_legsOut 40 = .ok (.goto (-36), 3) := by decide +kernel
theorem dX5_legsOut_43 : decode cX5_legsOut 43 = .ok (.iconst 0, 1) := by decide +kernel
theorem dX5_legsOut_44 : decode cX5_legsOut 44 = .ok (.istore_n 3, 1) := by decide +kernel
theorem dX5_legsOut_45 : decode cX5_legsOut 45 = .ok (.iload_n 3, 1) := by decide +kernel
theorem dX5_legsOut_46 : decode cX5_legsOut 46 = .ok (.aload_n 0, 1) := by decide +kernel
theorem dX5_legsOut_47 : decode cX5_legsOut 47 = .ok (.getfield 53, 3) := by decide +kernel
theorem dX5_legsOut_50 : decode cX5_legsOut 50 = .ok (.if_icmp .ge 26, 3) := by decide +kernel
theorem dX5_legsOut_53 : decode cX5_legsOut 53 = .ok (.iload_n 2, 1) := by decide +kernel
theorem dX5_legsOut_54 : decode cX5_legsOut 54 = .ok (.aload_n 0, 1) := by decide +kernel
theorem dX5_legsOut_55 : decode cX5_legsOut 55 = .ok (.iload_n 3, 1) := by decide +kernel
theorem dX5_legsOut_56 : decode cX5_legsOut 56 = .ok (.iload_n 1, 1) := by decide +kernel
theorem dX5_legsOut_57 : decode cX5_legsOut 57 = .ok (.invokevirtual 56, 3) := by decide +kernel
theorem dX5_legsOut_60 : decode cX5_legsOut 60 = .ok (.ifCond .eq 7, 3) := by decide +kernel
theorem dX5_legsOut_63 : decode cX5_legsOut 63 = .ok (.iconst 2, 1) := by decide +kernel
theorem dX5_legsOut_64 : decode cX5_legsOut 64 = .ok (.goto 4, 3) := by decide +kernel
theorem dX5_legsOut_67 : decode cX5_legsOut 67 = .ok (.iconst 0, 1) := by decide +kernel
theorem dX5_legsOut_68 : decode cX5_legsOut 68 = .ok (.isub, 1) := by decide +kernel
theorem dX5_legsOut_69 : decode cX5_legsOut 69 = .ok (.istore_n 2, 1) := by decide +kernel
theorem dX5_legsOut_70 : decode cX5_legsOut 70 = .ok (.iinc 3 1, 3) := by decide +kernel
theorem dX5_legsOut_73 : decode cX5_legsOut 73 = .ok (.goto (-28), 3) := by decide +kernel
theorem dX5_legsOut_76 : decode cX5_legsOut 76 = .ok (.iload_n 2, 1) := by decide +kernel
theorem dX5_legsOut_77 : decode cX5_legsOut 77 = .ok (.ireturn, 1) := by decide +kernel
theorem dX6_init_0 : decode cX6_init 0 = .ok (.aload_n 0, 1) := by decide +kernel
theorem dX6_init_1 : decode cX6_init 1 = .ok (.invokespecial 3, 3) := by decide +kernel
theorem dX6_init_4 : decode cX6_init 4 = .ok (.aload_n 0, 1) := by decide +kernel
theorem dX6_init_5 : decode cX6_init 5 = .ok (.new 9, 3) := by decide +kernel
theorem dX6_init_8 : decode cX6_init 8 = .ok (.dup, 1) := by decide +kernel
theorem dX6_init_9 : decode cX6_init 9 = .ok (.invokespecial 11, 3) := by decide +kernel
theorem dX6_init_12 : decode cX6_init 12 = .ok (.putfield 12, 3) := by decide +kernel
theorem dX6_init_15 : decode cX6_init 15 = .ok (.aload_n 0, 1) := by decide +kernel
theorem dX6_init_16 : decode cX6_init 16 = .ok (.bipush 6, 2) := by decide +kernel
theorem dX6_init_18 : decode cX6_init 18 = .ok (.newarray .int, 2) := by decide +kernel
theorem dX6_init_20 : decode cX6_init 20 = .ok (.dup, 1) := by decide +kernel
theorem dX6_init_21 : decode cX6_init 21 = .ok (.iconst 0, 1) := by decide +kernel
theorem dX6_init_22 : decode cX6_init 22 = .ok (.ldc 18, 2) := by decide +kernel
theorem dX6_init_24 : decode cX6_init 24 = .ok (.invokestatic 20, 3) := by decide +kernel
theorem dX6_init_27 : decode cX6_init 27 = .ok (.iastore, 1) := by decide +kernel
theorem dX6_init_28 : decode cX6_init 28 = .ok (.dup, 1) := by decide +kernel
theorem dX6_init_29 : decode cX6_init 29 = .ok (.iconst 1, 1) := by decide +kernel
theorem dX6_init_30 : decode cX6_init 30 = .ok (.ldc 24, 2) := by decide +kernel
theorem dX6_init_32 : decode cX6_init 32 = .ok (.invokestatic 20, 3) := by decide +kernel
theorem dX6_init_35 : decode cX6_init 35 = .ok (.iastore, 1) := by decide +kernel
theorem dX6_init_36 : decode cX6_init 36 = .ok (.dup, 1) := by decide +kernel
theorem dX6_init_37 : decode cX6_init 37 = .ok (.iconst 2, 1) := by decide +kernel
theorem dX6_init_38 : decode cX6_init 38 = .ok (.ldc 26, 2) := by decide +kernel
theorem dX6_init_40 : decode cX6_init 40 = .ok (.invokestatic 20, 3) := by decide +kernel
theorem dX6_init_43 : decode cX6_init 43 = .ok (.iastore, 1) := by decide +kernel
theorem dX6_init_44 : decode cX6_init 44 = .ok (.dup, 1) := by decide +kernel
theorem dX6_init_45 : decode cX6_init 45 = .ok (.iconst 3, 1) := by decide +kernel
theorem dX6_init_46 : decode cX6_init 46 = .ok (.ldc 28, 2) := by decide +kernel
theorem dX6_init_48 : decode cX6_init 48 = .ok (.invokestatic 20, 3) := by decide +kernel
theorem dX6_init_51 : decode cX6_init 51 = .ok (.iastore, 1) := by decide +kernel
theorem dX6_init_52 : decode cX6_init 52 = .ok (.dup, 1) := by decide +kernel
theorem dX6_init_53 : decode cX6_init 53 = .ok (.iconst 4, 1) := by decide +kernel
theorem dX6_init_54 : decode cX6_init 54 = .ok (.ldc 30, 2) := by decide +kernel
theorem dX6_init_56 : decode cX6_init 56 = .ok (.invokestatic 20, 3) := by decide +kernel
theorem dX6_init_59 : decode cX6_init 59 = .ok (.iastore, 1) := by decide +kernel
theorem dX6_init_60 : decode cX6_init 60 = .ok (.dup, 1) := by decide +kernel
theorem dX6_init_61 : decode cX6_init 61 = .ok (.iconst 5, 1) := by decide +kernel
theorem dX6_init_62 : decode cX6_init 62 = .ok (.ldc 32, 2) := by decide +kernel
theorem dX6_init_64 : decode cX6_init 64 = .ok (.invokestatic 20, 3) := by decide +kernel
theorem dX6_init_67 : decode cX6_init 67 = .ok (.iastore, 1) := by decide +kernel
theorem dX6_init_68 : decode cX6_init 68 = .ok (.putfield 34, 3) := by decide +kernel
theorem dX6_init_71 : decode cX6_init 71 = .ok (.aload_n 0, 1) := by decide +kernel
theorem dX6_init_72 : decode cX6_init 72 = .ok (.iconst 0, 1) := by decide +kernel
theorem dX6_init_73 : decode cX6_init 73 = .ok (.putfield 38, 3) := by decide +kernel
theorem dX6_init_76 : decode cX6_init 76 = .ok (.aload_n 0, 1) := by decide +kernel
theorem dX6_init_77 : decode cX6_init 77 = .ok (.iconst 0, 1) := by decide +kernel
theorem dX6_init_78 : decode cX6_init 78 = .ok (.putfield 42, 3) := by decide +kernel
theorem dX6_init_81 : decode cX6_init 81 = .ok (.aload_n 0, 1) := by decide +kernel
theorem dX6_init_82 : decode cX6_init 82 = .ok (.iconst 3, 1) := by decide +kernel
theorem dX6_init_83 : decode cX6_init 83 = .ok (.putfield 45, 3) := by decide +kernel
theorem dX6_init_86 : decode cX6_init 86 = .ok (.aload_n 0, 1) := by decide +kernel
theorem dX6_init_87 : decode cX6_init 87 = .ok (.iconst 0, 1) := by decide +kernel
theorem dX6_init_88 : decode cX6_init 88 = .ok (.putfield 48, 3) := by decide +kernel
theorem dX6_init_91 : decode cX6_init 91 = .ok (.aload_n 0, 1) := by decide +kernel
theorem dX6_init_92 : decode cX6_init 92 = .ok (.iconst 0, 1) := by decide +kernel
theorem dX6_init_93 : decode cX6_init 93 = .ok (.putfield 51, 3) := by decide +kernel
theorem dX6_init_96 : decode cX6_init 96 = .ok (.aload_n 0, 1) := by decide +kernel
theorem dX6_init_97 : decode cX6_init 97 = .ok (.iconst 0, 1) := by decide +kernel
theorem dX6_init_98 : decode cX6_init 98 = .ok (.putfield 54, 3) := by decide +kernel
theorem dX6_init_101 : decode cX6_init 101 = .ok (.return_, 1) := by decide +kernel
theorem dX6_packed_0 : decode cX6_packed 0 = .ok (.iconst 0, 1) := by decide +kernel
theorem dX6_packed_1 : decode cX6_packed 1 = .ok (.istore_n 1, 1) := by decide +kernel
theorem dX6_packed_2 : decode cX6_packed 2 = .ok (.iconst 0, 1) := by decide +kernel
theorem dX6_packed_3 : decode cX6_packed 3 = .ok (.istore_n 2, 1) := by decide +kernel
theorem dX6_packed_4 : decode cX6_packed 4 = .ok (.iload_n 2, 1) := by decide +kernel
theorem dX6_packed_5 : decode cX6_packed 5 = .ok (.aload_n 0, 1) := by decide +kernel
theorem dX6_packed_6 : decode cX6_packed 6 = .ok (.invokevirtual 57, 3) := by decide +kernel
theorem dX6_packed_9 : decode cX6_packed 9 = .ok (.if_icmp .ge 24, 3) := by decide +kernel
theorem dX6_packed_12 : decode cX6_packed 12 = .ok (.iload_n 1, 1) := by decide +kernel
theorem dX6_packed_13 : decode cX6_packed 13 = .ok (.iconst 5, 1) := by decide +kernel
theorem dX6_packed_14 : decode cX6_packed 14 = .ok (.ishl, 1) := by decide +kernel
theorem dX6_packed_15 : decode cX6_packed 15 = .ok (.aload_n 0, 1) := by decide +kernel
theorem dX6_packed_16 : decode cX6_packed 16 = .ok (.iload_n 2, 1) := by decide +kernel
theorem dX6_packed_17 : decode cX6_packed 17 = .ok (.invokevirtual 62, 3) := by decide +kernel
theorem dX6_packed_20 : decode cX6_packed 20 = .ok (.bipush 97, 2) := by decide +kernel
theorem dX6_packed_22 : decode cX6_packed 22 = .ok (.isub, 1) := by decide +kernel
theorem dX6_packed_23 : decode cX6_packed 23 = .ok (.iconst 1, 1) := by decide +kernel
theorem dX6_packed_24 : decode cX6_packed 24 = .ok (.iadd, 1) := by decide +kernel
theorem dX6_packed_25 : decode cX6_packed 25 = .ok (.ior, 1) := by decide +kernel
theorem dX6_packed_26 : decode cX6_packed 26 = .ok (.istore_n 1, 1) := by decide +kernel
theorem dX6_packed_27 : decode cX6_packed 27 = .ok (.iinc 2 1, 3) := by decide +kernel
theorem dX6_packed_30 : decode cX6_packed 30 = .ok (.goto (-26), 3) := by decide +kernel
theorem dX6_packed_33 : decode cX6_packed 33 = .ok (.iload_n 1, 1) := by decide +kernel
theorem dX6_packed_34 : decode cX6_packed 34 = .ok (.ireturn, 1) := by decide +kernel
theorem dX6_read_0 : decode cX6_read 0 = .ok (.aload_n 0, 1) := by decide +kernel
theorem dX6_read_1 : decode cX6_read 1 = .ok (.iconst 0, 1) := by decide +kernel
theorem dX6_read_2 : decode cX6_read 2 = .ok (.putfield 38, 3) := by decide +kernel
theorem dX6_read_5 : decode cX6_read 5 = .ok (.aload_n 0, 1) := by decide +kernel
theorem dX6_read_6 : decode cX6_read 6 = .ok (.iload_n 2, 1) := by decide +kernel
theorem dX6_read_7 : decode cX6_read 7 = .ok (.aload_n 1, 1) := by decide +kernel
theorem dX6_read_8 : decode cX6_read 8 = .ok (.arraylength, 1) := by decide +kernel
theorem dX6_read_9 : decode cX6_read 9 = .ok (.invokestatic 66, 3) := by decide +kernel
theorem dX6_read_12 : decode cX6_read 12 = .ok (.putfield 42, 3) := by decide +kernel
theorem dX6_read_15 : decode cX6_read 15 = .ok (.aload_n 0, 1) := by decide +kernel
theorem dX6_read_16 : decode cX6_read 16 = .ok (.iconst 0, 1) := by decide +kernel
theorem dX6_read_17 : decode cX6_read 17 = .ok (.putfield 54, 3) := by decide +kernel
theorem dX6_read_20 : decode cX6_read 20 = .ok (.aload_n 3, 1) := by decide +kernel
theorem dX6_read_21 : decode cX6_read 21 = .ok (.invokevirtual 72, 3) := by decide +kernel
theorem dX6_read_24 : decode cX6_read 24 = .ok (.iconst 0, 1) := by decide +kernel
theorem dX6_read_25 : decode cX6_read 25 = .ok (.istore 4, 2) := by decide +kernel
theorem dX6_read_27 : decode cX6_read 27 = .ok (.aload_n 0, 1) := by decide +kernel
theorem dX6_read_28 : decode cX6_read 28 = .ok (.aload_n 1, 1) := by decide +kernel
theorem dX6_read_29 : decode cX6_read 29 = .ok (.invokevirtual 77, 3) := by decide +kernel
theorem dX6_read_32 : decode cX6_read 32 = .ok (.aload_n 0, 1) := by decide +kernel
theorem dX6_read_33 : decode cX6_read 33 = .ok (.invokevirtual 81, 3) := by decide +kernel
theorem dX6_read_36 : decode cX6_read 36 = .ok (.ifCond .ne 25, 3) := by decide +kernel
theorem dX6_read_39 : decode cX6_read 39 = .ok (.aload_n 0, 1) := by decide +kernel
theorem dX6_read_40 : decode cX6_read 40 = .ok (.aload_n 1, 1) := by decide +kernel
theorem dX6_read_41 : decode cX6_read 41 = .ok (.aload_n 3, 1) := by decide +kernel
theorem dX6_read_42 : decode cX6_read 42 = .ok (.invokevirtual 84, 3) := by decide +kernel
theorem dX6_read_45 : decode cX6_read 45 = .ok (.ifCond .ne 8, 3) := by decide +kernel
theorem dX6_read_48 : decode cX6_read 48 = .ok (.aload_n 0, 1) := by decide +kernel
theorem dX6_read_49 : decode cX6_read 49 = .ok (.getfield 54, 3) := by decide +kernel
theorem dX6_read_52 : decode cX6_read 52 = .ok (.ireturn, 1) := by decide +kernel
theorem dX6_read_53 : decode cX6_read 53 = .ok (.iinc 4 1, 3) := by decide +kernel
theorem dX6_read_56 : decode cX6_read 56 = .ok (.aload_n 0, 1) := by decide +kernel
theorem dX6_read_57 : decode cX6_read 57 = .ok (.aload_n 1, 1) := by decide +kernel
theorem dX6_read_58 : decode cX6_read 58 = .ok (.invokevirtual 77, 3) := by decide +kernel
theorem dX6_read_61 : decode cX6_read 61 = .ok (.iconst 0, 1) := by decide +kernel
theorem dX6_read_62 : decode cX6_read 62 = .ok (.istore 5, 2) := by decide +kernel
theorem dX6_read_64 : decode cX6_read 64 = .ok (.iload 5, 2) := by decide +kernel
theorem dX6_read_66 : decode cX6_read 66 = .ok (.sipush 700, 3) := by decide +kernel
theorem dX6_read_69 : decode cX6_read 69 = .ok (.if_icmp .gt 137, 3) := by decide +kernel
theorem dX6_read_72 : decode cX6_read 72 = .ok (.aload_n 0, 1) := by decide +kernel
theorem dX6_read_73 : decode cX6_read 73 = .ok (.getfield 45, 3) := by decide +kernel
theorem dX6_read_76 : decode cX6_read 76 = .ok (.iconst 3, 1) := by decide +kernel
theorem dX6_read_77 : decode cX6_read 77 = .ok (.if_icmp .eq 129, 3) := by decide +kernel
theorem dX6_read_80 : decode cX6_read 80 = .ok (.aload_n 0, 1) := by decide +kernel
theorem dX6_read_81 : decode cX6_read 81 = .ok (.invokevirtual 81, 3) := by decide +kernel
theorem dX6_read_84 : decode cX6_read 84 = .ok (.tableswitch 91 1 5 #[36, 47, 58, 69, 80], 36) := by decide +kernel
theorem dX6_read_120 : decode cX6_read 120 = .ok (.aload_n 0, 1) := by decide +kernel
theorem dX6_read_121 : decode cX6_read 121 = .ok (.aload_n 1, 1) := by decide +kernel
theorem dX6_read_122 : decode cX6_read 122 = .ok (.aload_n 3, 1) := by decide +kernel
theorem dX6_read_123 : decode cX6_read 123 = .ok (.invokevirtual 88, 3) := by decide +kernel
theorem dX6_read_126 : decode cX6_read 126 = .ok (.istore 6, 2) := by decide +kernel
theorem dX6_read_128 : decode cX6_read 128 = .ok (.goto 54, 3) := by decide +kernel
theorem dX6_read_131 : decode cX6_read 131 = .ok (.aload_n 0, 1) := by decide +kernel
theorem dX6_read_132 : decode cX6_read 132 = .ok (.aload_n 1, 1) := by decide +kernel
theorem dX6_read_133 : decode cX6_read 133 = .ok (.aload_n 3, 1) := by decide +kernel
theorem dX6_read_134 : decode cX6_read 134 = .ok (.invokevirtual 91, 3) := by decide +kernel
theorem dX6_read_137 : decode cX6_read 137 = .ok (.istore 6, 2) := by decide +kernel
theorem dX6_read_139 : decode cX6_read 139 = .ok (.goto 43, 3) := by decide +kernel
theorem dX6_read_142 : decode cX6_read 142 = .ok (.aload_n 0, 1) := by decide +kernel
theorem dX6_read_143 : decode cX6_read 143 = .ok (.aload_n 1, 1) := by decide +kernel
theorem dX6_read_144 : decode cX6_read 144 = .ok (.aload_n 3, 1) := by decide +kernel
theorem dX6_read_145 : decode cX6_read 145 = .ok (.invokevirtual 94, 3) := by decide +kernel
theorem dX6_read_148 : decode cX6_read 148 = .ok (.istore 6, 2) := by decide +kernel
theorem dX6_read_150 : decode cX6_read 150 = .ok (.goto 32, 3) := by decide +kernel
theorem dX6_read_153 : decode cX6_read 153 = .ok (.aload_n 0, 1) := by decide +kernel
theorem dX6_read_154 : decode cX6_read 154 = .ok (.aload_n 1, 1) := by decide +kernel
theorem dX6_read_155 : decode cX6_read 155 = .ok (.aload_n 3, 1) := by decide +kernel
theorem dX6_read_156 : decode cX6_read 156 = .ok (.invokevirtual 97, 3) := by decide +kernel
theorem dX6_read_159 : decode cX6_read 159 = .ok (.istore 6, 2) := by decide +kernel
theorem dX6_read_161 : decode cX6_read 161 = .ok (.goto 21, 3) := by decide +kernel
theorem dX6_read_164 : decode cX6_read 164 = .ok (.aload_n 0, 1) := by decide +kernel
theorem dX6_read_165 : decode cX6_read 165 = .ok (.aload_n 1, 1) := by decide +kernel
theorem dX6_read_166 : decode cX6_read 166 = .ok (.aload_n 3, 1) := by decide +kernel
theorem dX6_read_167 : decode cX6_read 167 = .ok (.invokevirtual 100, 3) := by decide +kernel
theorem dX6_read_170 : decode cX6_read 170 = .ok (.istore 6, 2) := by decide +kernel
theorem dX6_read_172 : decode cX6_read 172 = .ok (.goto 10, 3) := by decide +kernel
theorem dX6_read_175 : decode cX6_read 175 = .ok (.aload_n 0, 1) := by decide +kernel
theorem dX6_read_176 : decode cX6_read 176 = .ok (.iconst 1, 1) := by decide +kernel
theorem dX6_read_177 : decode cX6_read 177 = .ok (.invokevirtual 103, 3) := by decide +kernel
theorem dX6_read_180 : decode cX6_read 180 = .ok (.istore 6, 2) := by decide +kernel
theorem dX6_read_182 : decode cX6_read 182 = .ok (.iload 6, 2) := by decide +kernel
theorem dX6_read_184 : decode cX6_read 184 = .ok (.ifCond .ne 8, 3) := by decide +kernel
theorem dX6_read_187 : decode cX6_read 187 = .ok (.aload_n 0, 1) := by decide +kernel
theorem dX6_read_188 : decode cX6_read 188 = .ok (.getfield 54, 3) := by decide +kernel
theorem dX6_read_191 : decode cX6_read 191 = .ok (.ireturn, 1) := by decide +kernel
theorem dX6_read_192 : decode cX6_read 192 = .ok (.iinc 4 1, 3) := by decide +kernel
theorem dX6_read_195 : decode cX6_read 195 = .ok (.aload_n 0, 1) := by decide +kernel
theorem dX6_read_196 : decode cX6_read 196 = .ok (.aload_n 1, 1) := by decide +kernel
theorem dX6_read_197 : decode cX6_read 197 = .ok (.invokevirtual 77, 3) := by decide +kernel
theorem dX6_read_200 : decode cX6_read 200 = .ok (.iinc 5 1, 3) := by decide +kernel
theorem dX6_read_203 : decode cX6_read 203 = .ok (.goto (-139), 3) := by decide +kernel
theorem dX6_read_206 : decode cX6_read 206 = .ok (.iload 4, 2) := by decide +kernel
theorem dX6_read_208 : decode cX6_read 208 = .ok (.ireturn, 1) := by decide +kernel
theorem dX6_readField_0 : decode cX6_readField 0 = .ok (.aload_n 0, 1) := by decide +kernel
theorem dX6_readField_1 : decode cX6_readField 1 = .ok (.aload_n 1, 1) := by decide +kernel
theorem dX6_readField_2 : decode cX6_readField 2 = .ok (.iconst 3, 1) := by decide +kernel
theorem dX6_readField_3 : decode cX6_readField 3 = .ok (.bipush 97, 2) := by decide +kernel
theorem dX6_readField_5 : decode cX6_readField 5 = .ok (.invokevirtual 107, 3) := by decide +kernel
theorem dX6_readField_8 : decode cX6_readField 8 = .ok (.ifCond .ne 5, 3) := by decide +kernel
theorem dX6_readField_11 : decode cX6_readField 11 = .ok (.iconst 0, 1) := by decide +kernel
theorem dX6_readField_12 : decode cX6_readField 12 = .ok (.ireturn, 1) := by decide +kernel
theorem dX6_readField_13 : decode cX6_readField 13 = .ok (.aload_n 0, 1) := by decide +kernel
theorem dX6_readField_14 : decode cX6_readField 14 = .ok (.getfield 51, 3) := by decide +kernel
theorem dX6_readField_17 : decode cX6_readField 17 = .ok (.invokestatic 111, 3) := by decide +kernel
theorem dX6_readField_20 : decode cX6_readField 20 = .ok (.ifCond .ne 9, 3) := by decide +kernel
theorem dX6_readField_23 : decode cX6_readField 23 = .ok (.aload_n 0, 1) := by decide +kernel
theorem dX6_readField_24 : decode cX6_readField 24 = .ok (.iconst 4, 1) := by decide +kernel
theorem dX6_readField_25 : decode cX6_readField 25 = .ok (.invokevirtual 103, 3) := by decide +kernel
theorem dX6_readField_28 : decode cX6_readField 28 = .ok (.ireturn, 1) := by decide +kernel
theorem dX6_readField_29 : decode cX6_readField 29 = .ok (.aload_n 2, 1) := by decide +kernel
theorem dX6_readField_30 : decode cX6_readField 30 = .ok (.aload_n 0, 1) := by decide +kernel
theorem dX6_readField_31 : decode cX6_readField 31 = .ok (.getfield 51, 3) := by decide +kernel
theorem dX6_readField_34 : decode cX6_readField 34 = .ok (.putfield 114, 3) := by decide +kernel
theorem dX6_readField_37 : decode cX6_readField 37 = .ok (.aload_n 0, 1) := by decide +kernel
theorem dX6_readField_38 : decode cX6_readField 38 = .ok (.aload_n 1, 1) := by decide +kernel
theorem dX6_readField_39 : decode cX6_readField 39 = .ok (.invokevirtual 117, 3) := by decide +kernel
theorem dX6_readField_42 : decode cX6_readField 42 = .ok (.ireturn, 1) := by decide +kernel
theorem dX6_readTable_0 : decode cX6_readTable 0 = .ok (.aload_n 2, 1) := by decide +kernel
theorem dX6_readTable_1 : decode cX6_readTable 1 = .ok (.getfield 121, 3) := by decide +kernel
theorem dX6_readTable_4 : decode cX6_readTable 4 = .ok (.bipush 8, 2) := by decide +kernel
theorem dX6_readTable_6 : decode cX6_readTable 6 = .ok (.if_icmp .lt 9, 3) := by decide +kernel
theorem dX6_readTable_9 : decode cX6_readTable 9 = .ok (.aload_n 0, 1) := by decide +kernel
theorem dX6_readTable_10 : decode cX6_readTable 10 = .ok (.iconst 5, 1) := by decide +kernel
theorem dX6_readTable_11 : decode cX6_readTable 11 = .ok (.invokevirtual 103, 3) := by decide +kernel
theorem dX6_readTable_14 : decode cX6_readTable 14 = .ok (.ireturn, 1) := by decide +kernel
theorem dX6_readTable_15 : decode cX6_readTable 15 = .ok (.aload_n 0, 1) := by decide +kernel
theorem dX6_readTable_16 : decode cX6_readTable 16 = .ok (.aload_n 1, 1) := by decide +kernel
theorem dX6_readTable_17 : decode cX6_readTable 17 = .ok (.aload_n 2, 1) := by decide +kernel
theorem dX6_readTable_18 : decode cX6_readTable 18 = .ok (.invokevirtual 124, 3) := by decide +kernel
theorem dX6_readTable_21 : decode cX6_readTable 21 = .ok (.ifCond .ne 5, 3) := by decide +kernel
theorem dX6_readTable_24 : decode cX6_readTable 24 = .ok (.iconst 0, 1) := by decide +kernel
theorem dX6_readTable_25 : decode cX6_readTable 25 = .ok (.ireturn, 1) := by decide +kernel
theorem dX6_readTable_26 : decode cX6_readTable 26 = .ok (.aload_n 2, 1) := by decide +kernel
theorem dX6_readTable_27 : decode cX6_readTable 27 = .ok (.aload_n 0, 1) := by decide +kernel
theorem dX6_readTable_28 : decode cX6_readTable 28 = .ok (.getfield 51, 3) := by decide +kernel
theorem dX6_readTable_31 : decode cX6_readTable 31 = .ok (.iconst 1, 1) := by decide +kernel
theorem dX6_readTable_32 : decode cX6_readTable 32 = .ok (.aload_n 2, 1) := by decide +kernel
theorem dX6_readTable_33 : decode cX6_readTable 33 = .ok (.getfield 121, 3) := by decide +kernel
theorem dX6_readTable_36 : decode cX6_readTable 36 = .ok (.invokevirtual 127, 3) := by decide +kernel
theorem dX6_readTable_39 : decode cX6_readTable 39 = .ok (.aload_n 0, 1) := by decide +kernel
theorem dX6_readTable_40 : decode cX6_readTable 40 = .ok (.aload_n 1, 1) := by decide +kernel
theorem dX6_readTable_41 : decode cX6_readTable 41 = .ok (.iconst 1, 1) := by decide +kernel
theorem dX6_readTable_42 : decode cX6_readTable 42 = .ok (.iconst 4, 1) := by decide +kernel
theorem dX6_readTable_43 : decode cX6_readTable 43 = .ok (.invokevirtual 107, 3) := by decide +kernel
theorem dX6_readTable_46 : decode cX6_readTable 46 = .ok (.ifCond .ne 5, 3) := by decide +kernel
theorem dX6_readTable_49 : decode cX6_readTable 49 = .ok (.iconst 0, 1) := by decide +kernel
theorem dX6_readTable_50 : decode cX6_readTable 50 = .ok (.ireturn, 1) := by decide +kernel
theorem dX6_readTable_51 : decode cX6_readTable 51 = .ok (.aload_n 2, 1) := by decide +kernel
theorem dX6_readTable_52 : decode cX6_readTable 52 = .ok (.getfield 131, 3) := by decide +kernel
theorem dX6_readTable_55 : decode cX6_readTable 55 = .ok (.aload_n 2, 1) := by decide +kernel
theorem dX6_readTable_56 : decode cX6_readTable 56 = .ok (.getfield 121, 3) := by decide +kernel
theorem dX6_readTable_59 : decode cX6_readTable 59 = .ok (.aaload, 1) := by decide +kernel
theorem dX6_readTable_60 : decode cX6_readTable 60 = .ok (.astore_n 3, 1) := by decide +kernel
theorem dX6_readTable_61 : decode cX6_readTable 61 = .ok (.aload_n 3, 1) := by decide +kernel
theorem dX6_readTable_62 : decode cX6_readTable 62 = .ok (.aload_n 0, 1) := by decide +kernel
theorem dX6_readTable_63 : decode cX6_readTable 63 = .ok (.getfield 51, 3) := by decide +kernel
theorem dX6_readTable_66 : decode cX6_readTable 66 = .ok (.putfield 135, 3) := by decide +kernel
theorem dX6_readTable_69 : decode cX6_readTable 69 = .ok (.iconst 0, 1) := by decide +kernel
theorem dX6_readTable_70 : decode cX6_readTable 70 = .ok (.istore 4, 2) := by decide +kernel
theorem dX6_readTable_72 : decode cX6_readTable 72 = .ok (.iload 4, 2) := by decide +kernel
theorem dX6_readTable_74 : decode cX6_readTable 74 = .ok (.aload_n 3, 1) := by decide +kernel
theorem dX6_readTable_75 : decode cX6_readTable 75 = .ok (.invokevirtual 140, 3) := by decide +kernel
theorem dX6_readTable_78 : decode cX6_readTable 78 = .ok (.if_icmp .ge 37, 3) := by decide +kernel
theorem dX6_readTable_81 : decode cX6_readTable 81 = .ok (.aload_n 0, 1) := by decide +kernel
theorem dX6_readTable_82 : decode cX6_readTable 82 = .ok (.aload_n 1, 1) := by decide +kernel
theorem dX6_readTable_83 : decode cX6_readTable 83 = .ok (.iconst 0, 1) := by decide +kernel
theorem dX6_readTable_84 : decode cX6_readTable 84 = .ok (.aload_n 2, 1) := by decide +kernel
theorem dX6_readTable_85 : decode cX6_readTable 85 = .ok (.getfield 114, 3) := by decide +kernel
theorem dX6_readTable_88 : decode cX6_readTable 88 = .ok (.iconst 1, 1) := by decide +kernel
theorem dX6_readTable_89 : decode cX6_readTable 89 = .ok (.isub, 1) := by decide +kernel
theorem dX6_readTable_90 : decode cX6_readTable 90 = .ok (.invokevirtual 107, 3) := by decide +kernel
theorem dX6_readTable_93 : decode cX6_readTable 93 = .ok (.ifCond .ne 5, 3) := by decide +kernel
theorem dX6_readTable_96 : decode cX6_readTable 96 = .ok (.iconst 0, 1) := by decide +kernel
theorem dX6_readTable_97 : decode cX6_readTable 97 = .ok (.ireturn, 1) := by decide +kernel
theorem dX6_readTable_98 : decode cX6_readTable 98 = .ok (.aload_n 3, 1) := by decide +kernel
theorem dX6_readTable_99 : decode cX6_readTable 99 = .ok (.getfield 143, 3) := by decide +kernel
theorem dX6_readTable_102 : decode cX6_readTable 102 = .ok (.iload 4, 2) := by decide +kernel
theorem dX6_readTable_104 : decode cX6_readTable 104 = .ok (.aload_n 0, 1) := by decide +kernel
theorem dX6_readTable_105 : decode cX6_readTable 105 = .ok (.getfield 51, 3) := by decide +kernel
theorem dX6_readTable_108 : decode cX6_readTable 108 = .ok (.iastore, 1) := by decide +kernel
theorem dX6_readTable_109 : decode cX6_readTable 109 = .ok (.iinc 4 1, 3) := by decide +kernel
theorem dX6_readTable_112 : decode cX6_readTable 112 = .ok (.goto (-40), 3) := by decide +kernel
theorem dX6_readTable_115 : decode cX6_readTable 115 = .ok (.aload_n 2, 1) := by decide +kernel
theorem dX6_readTable_116 : decode cX6_readTable 116 = .ok (.dup, 1) := by decide +kernel
theorem dX6_readTable_117 : decode cX6_readTable 117 = .ok (.getfield 121, 3) := by decide +kernel
theorem dX6_readTable_120 : decode cX6_readTable 120 = .ok (.iconst 1, 1) := by decide +kernel
theorem dX6_readTable_121 : decode cX6_readTable 121 = .ok (.iadd, 1) := by decide +kernel
theorem dX6_readTable_122 : decode cX6_readTable 122 = .ok (.putfield 121, 3) := by decide +kernel
theorem dX6_readTable_125 : decode cX6_readTable 125 = .ok (.aload_n 0, 1) := by decide +kernel
theorem dX6_readTable_126 : decode cX6_readTable 126 = .ok (.aload_n 1, 1) := by decide +kernel
theorem dX6_readTable_127 : decode cX6_readTable 127 = .ok (.invokevirtual 117, 3) := by decide +kernel
theorem dX6_readTable_130 : decode cX6_readTable 130 = .ok (.ireturn, 1) := by decide +kernel
theorem dX6_readGate_0 : decode cX6_readGate 0 = .ok (.aload_n 2, 1) := by decide +kernel
theorem dX6_readGate_1 : decode cX6_readGate 1 = .ok (.getfield 121, 3) := by decide +kernel
theorem dX6_readGate_4 : decode cX6_readGate 4 = .ok (.bipush 8, 2) := by decide +kernel
theorem dX6_readGate_6 : decode cX6_readGate 6 = .ok (.if_icmp .lt 9, 3) := by decide +kernel
theorem dX6_readGate_9 : decode cX6_readGate 9 = .ok (.aload_n 0, 1) := by decide +kernel
theorem dX6_readGate_10 : decode cX6_readGate 10 = .ok (.iconst 5, 1) := by decide +kernel
theorem dX6_readGate_11 : decode cX6_readGate 11 = .ok (.invokevirtual 103, 3) := by decide +kernel
theorem dX6_readGate_14 : decode cX6_readGate 14 = .ok (.ireturn, 1) := by decide +kernel
theorem dX6_readGate_15 : decode cX6_readGate 15 = .ok (.aload_n 0, 1) := by decide +kernel
theorem dX6_readGate_16 : decode cX6_readGate 16 = .ok (.aload_n 1, 1) := by decide +kernel
theorem dX6_readGate_17 : decode cX6_readGate 17 = .ok (.aload_n 2, 1) := by decide +kernel
theorem dX6_readGate_18 : decode cX6_readGate 18 = .ok (.invokevirtual 124, 3) := by decide +kernel
theorem dX6_readGate_21 : decode cX6_readGate 21 = .ok (.ifCond .ne 5, 3) := by decide +kernel
theorem dX6_readGate_24 : decode cX6_readGate 24 = .ok (.iconst 0, 1) := by decide +kernel
theorem dX6_readGate_25 : decode cX6_readGate 25 = .ok (.ireturn, 1) := by decide +kernel
theorem dX6_readGate_26 : decode cX6_readGate 26 = .ok (.aload_n 2, 1) := by decide +kernel
theorem dX6_readGate_27 : decode cX6_readGate 27 = .ok (.aload_n 0, 1) := by decide +kernel
theorem dX6_readGate_28 : decode cX6_readGate 28 = .ok (.getfield 51, 3) := by decide +kernel
theorem dX6_readGate_31 : decode cX6_readGate 31 = .ok (.iconst 1, 1) := by decide +kernel
theorem dX6_readGate_32 : decode cX6_readGate 32 = .ok (.aload_n 2, 1) := by decide +kernel
theorem dX6_readGate_33 : decode cX6_readGate 33 = .ok (.getfield 121, 3) := by decide +kernel
theorem dX6_readGate_36 : decode cX6_readGate 36 = .ok (.invokevirtual 127, 3) := by decide +kernel
theorem dX6_readGate_39 : decode cX6_readGate 39 = .ok (.aload_n 0, 1) := by decide +kernel
theorem dX6_readGate_40 : decode cX6_readGate 40 = .ok (.aload_n 1, 1) := by decide +kernel
theorem dX6_readGate_41 : decode cX6_readGate 41 = .ok (.iconst 1, 1) := by decide +kernel
theorem dX6_readGate_42 : decode cX6_readGate 42 = .ok (.bipush 8, 2) := by decide +kernel
theorem dX6_readGate_44 : decode cX6_readGate 44 = .ok (.invokevirtual 107, 3) := by decide +kernel
theorem dX6_readGate_47 : decode cX6_readGate 47 = .ok (.ifCond .ne 5, 3) := by decide +kernel
theorem dX6_readGate_50 : decode cX6_readGate 50 = .ok (.iconst 0, 1) := by decide +kernel
theorem dX6_readGate_51 : decode cX6_readGate 51 = .ok (.ireturn, 1) := by decide +kernel
theorem dX6_readGate_52 : decode cX6_readGate 52 = .ok (.aload_n 0, 1) := by decide +kernel
theorem dX6_readGate_53 : decode cX6_readGate 53 = .ok (.getfield 12, 3) := by decide +kernel
theorem dX6_readGate_56 : decode cX6_readGate 56 = .ok (.aload_n 0, 1) := by decide +kernel
theorem dX6_readGate_57 : decode cX6_readGate 57 = .ok (.getfield 51, 3) := by decide +kernel
theorem dX6_readGate_60 : decode cX6_readGate 60 = .ok (.invokevirtual 146, 3) := by decide +kernel
theorem dX6_readGate_63 : decode cX6_readGate 63 = .ok (.aload_n 0, 1) := by decide +kernel
theorem dX6_readGate_64 : decode cX6_readGate 64 = .ok (.aload_n 1, 1) := by decide +kernel
theorem dX6_readGate_65 : decode cX6_readGate 65 = .ok (.iconst 1, 1) := by decide +kernel
theorem dX6_readGate_66 : decode cX6_readGate 66 = .ok (.aload_n 0, 1) := by decide +kernel
theorem dX6_readGate_67 : decode cX6_readGate 67 = .ok (.getfield 51, 3) := by decide +kernel
theorem dX6_readGate_70 : decode cX6_readGate 70 = .ok (.iconst 4, 1) := by decide +kernel
theorem dX6_readGate_71 : decode cX6_readGate 71 = .ok (.invokestatic 66, 3) := by decide +kernel
theorem dX6_readGate_74 : decode cX6_readGate 74 = .ok (.invokevirtual 107, 3) := by decide +kernel
theorem dX6_readGate_77 : decode cX6_readGate 77 = .ok (.ifCond .ne 5, 3) := by decide +kernel
theorem dX6_readGate_80 : decode cX6_readGate 80 = .ok (.iconst 0, 1) := by decide +kernel
theorem dX6_readGate_81 : decode cX6_readGate 81 = .ok (.ireturn, 1) := by decide +kernel
theorem dX6_readGate_82 : decode cX6_readGate 82 = .ok (.aload_n 2, 1) := by decide +kernel
theorem dX6_readGate_83 : decode cX6_readGate 83 = .ok (.getfield 131, 3) := by decide +kernel
theorem dX6_readGate_86 : decode cX6_readGate 86 = .ok (.aload_n 2, 1) := by decide +kernel
theorem dX6_readGate_87 : decode cX6_readGate 87 = .ok (.getfield 121, 3) := by decide +kernel
theorem dX6_readGate_90 : decode cX6_readGate 90 = .ok (.aaload, 1) := by decide +kernel
theorem dX6_readGate_91 : decode cX6_readGate 91 = .ok (.astore_n 3, 1) := by decide +kernel
theorem dX6_readGate_92 : decode cX6_readGate 92 = .ok (.aload_n 3, 1) := by decide +kernel
theorem dX6_readGate_93 : decode cX6_readGate 93 = .ok (.aload_n 0, 1) := by decide +kernel
theorem dX6_readGate_94 : decode cX6_readGate 94 = .ok (.getfield 51, 3) := by decide +kernel
theorem dX6_readGate_97 : decode cX6_readGate 97 = .ok (.putfield 135, 3) := by decide +kernel
theorem dX6_readGate_100 : decode cX6_readGate 100 = .ok (.aload_n 0, 1) := by decide +kernel
theorem dX6_readGate_101 : decode cX6_readGate 101 = .ok (.aload_n 1, 1) := by decide +kernel
theorem dX6_readGate_102 : decode cX6_readGate 102 = .ok (.invokevirtual 77, 3) := by decide +kernel
theorem dX6_readGate_105 : decode cX6_readGate 105 = .ok (.iconst 0, 1) := by decide +kernel
theorem dX6_readGate_106 : decode cX6_readGate 106 = .ok (.istore 4, 2) := by decide +kernel
theorem dX6_readGate_108 : decode cX6_readGate 108 = .ok (.iload 4, 2) := by decide +kernel
theorem dX6_readGate_110 : decode cX6_readGate 110 = .ok (.bipush 12, 2) := by decide +kernel
theorem dX6_readGate_112 : decode cX6_readGate 112 = .ok (.if_icmp .gt 36, 3) := by decide +kernel
theorem dX6_readGate_115 : decode cX6_readGate 115 = .ok (.aload_n 0, 1) := by decide +kernel
theorem dX6_readGate_116 : decode cX6_readGate 116 = .ok (.getfield 45, 3) := by decide +kernel
theorem dX6_readGate_119 : decode cX6_readGate 119 = .ok (.iconst 2, 1) := by decide +kernel
theorem dX6_readGate_120 : decode cX6_readGate 120 = .ok (.if_icmp .eq 28, 3) := by decide +kernel
theorem dX6_readGate_123 : decode cX6_readGate 123 = .ok (.aload_n 0, 1) := by decide +kernel
theorem dX6_readGate_124 : decode cX6_readGate 124 = .ok (.aload_n 1, 1) := by decide +kernel
theorem dX6_readGate_125 : decode cX6_readGate 125 = .ok (.aload_n 2, 1) := by decide +kernel
theorem dX6_readGate_126 : decode cX6_readGate 126 = .ok (.getfield 114, 3) := by decide +kernel
theorem dX6_readGate_129 : decode cX6_readGate 129 = .ok (.invokevirtual 150, 3) := by decide +kernel
theorem dX6_readGate_132 : decode cX6_readGate 132 = .ok (.ifCond .ne 5, 3) := by decide +kernel
theorem dX6_readGate_135 : decode cX6_readGate 135 = .ok (.iconst 0, 1) := by decide +kernel
theorem dX6_readGate_136 : decode cX6_readGate 136 = .ok (.ireturn, 1) := by decide +kernel
theorem dX6_readGate_137 : decode cX6_readGate 137 = .ok (.aload_n 0, 1) := by decide +kernel
theorem dX6_readGate_138 : decode cX6_readGate 138 = .ok (.aload_n 1, 1) := by decide +kernel
theorem dX6_readGate_139 : decode cX6_readGate 139 = .ok (.invokevirtual 77, 3) := by decide +kernel
theorem dX6_readGate_142 : decode cX6_readGate 142 = .ok (.iinc 4 1, 3) := by decide +kernel
theorem dX6_readGate_145 : decode cX6_readGate 145 = .ok (.goto (-37), 3) := by decide +kernel
theorem dX6_readGate_148 : decode cX6_readGate 148 = .ok (.aload_n 0, 1) := by decide +kernel
theorem dX6_readGate_149 : decode cX6_readGate 149 = .ok (.getfield 12, 3) := by decide +kernel
theorem dX6_readGate_152 : decode cX6_readGate 152 = .ok (.aload_n 3, 1) := by decide +kernel
theorem dX6_readGate_153 : decode cX6_readGate 153 = .ok (.aload_n 2, 1) := by decide +kernel
theorem dX6_readGate_154 : decode cX6_readGate 154 = .ok (.getfield 114, 3) := by decide +kernel
theorem dX6_readGate_157 : decode cX6_readGate 157 = .ok (.invokevirtual 154, 3) := by decide +kernel
theorem dX6_readGate_160 : decode cX6_readGate 160 = .ok (.aload_n 2, 1) := by decide +kernel
theorem dX6_readGate_161 : decode cX6_readGate 161 = .ok (.dup, 1) := by decide +kernel
theorem dX6_readGate_162 : decode cX6_readGate 162 = .ok (.getfield 121, 3) := by decide +kernel
theorem dX6_readGate_165 : decode cX6_readGate 165 = .ok (.iconst 1, 1) := by decide +kernel
theorem dX6_readGate_166 : decode cX6_readGate 166 = .ok (.iadd, 1) := by decide +kernel
theorem dX6_readGate_167 : decode cX6_readGate 167 = .ok (.putfield 121, 3) := by decide +kernel
theorem dX6_readGate_170 : decode cX6_readGate 170 = .ok (.iconst 1, 1) := by decide +kernel
theorem dX6_readGate_171 : decode cX6_readGate 171 = .ok (.ireturn, 1) := by decide +kernel
theorem dX6_readEdge_0 : decode cX6_readEdge 0 = .ok (.aload_n 0, 1) := by decide +kernel
theorem dX6_readEdge_1 : decode cX6_readEdge 1 = .ok (.iconst 0, 1) := by decide +kernel
theorem dX6_readEdge_2 : decode cX6_readEdge 2 = .ok (.aload_n 0, 1) := by decide +kernel
theorem dX6_readEdge_3 : decode cX6_readEdge 3 = .ok (.getfield 12, 3) := by decide +kernel
theorem dX6_readEdge_6 : decode cX6_readEdge 6 = .ok (.getfield 158, 3) := by decide +kernel
theorem dX6_readEdge_9 : decode cX6_readEdge 9 = .ok (.iconst 1, 1) := by decide +kernel
theorem dX6_readEdge_10 : decode cX6_readEdge 10 = .ok (.isub, 1) := by decide +kernel
theorem dX6_readEdge_11 : decode cX6_readEdge 11 = .ok (.invokevirtual 161, 3) := by decide +kernel
theorem dX6_readEdge_14 : decode cX6_readEdge 14 = .ok (.ifCond .ne 5, 3) := by decide +kernel
theorem dX6_readEdge_17 : decode cX6_readEdge 17 = .ok (.iconst 0, 1) := by decide +kernel
theorem dX6_readEdge_18 : decode cX6_readEdge 18 = .ok (.ireturn, 1) := by decide +kernel
theorem dX6_readEdge_19 : decode cX6_readEdge 19 = .ok (.aload_n 0, 1) := by decide +kernel
theorem dX6_readEdge_20 : decode cX6_readEdge 20 = .ok (.getfield 12, 3) := by decide +kernel
theorem dX6_readEdge_23 : decode cX6_readEdge 23 = .ok (.getfield 165, 3) := by decide +kernel
theorem dX6_readEdge_26 : decode cX6_readEdge 26 = .ok (.bipush 12, 2) := by decide +kernel
theorem dX6_readEdge_28 : decode cX6_readEdge 28 = .ok (.if_icmp .lt 9, 3) := by decide +kernel
theorem dX6_readEdge_31 : decode cX6_readEdge 31 = .ok (.aload_n 0, 1) := by decide +kernel
theorem dX6_readEdge_32 : decode cX6_readEdge 32 = .ok (.iconst 5, 1) := by decide +kernel
theorem dX6_readEdge_33 : decode cX6_readEdge 33 = .ok (.invokevirtual 103, 3) := by decide +kernel
theorem dX6_readEdge_36 : decode cX6_readEdge 36 = .ok (.ireturn, 1) := by decide +kernel
theorem dX6_readEdge_37 : decode cX6_readEdge 37 = .ok (.aload_n 0, 1) := by decide +kernel
theorem dX6_readEdge_38 : decode cX6_readEdge 38 = .ok (.getfield 51, 3) := by decide +kernel
theorem dX6_readEdge_41 : decode cX6_readEdge 41 = .ok (.istore_n 3, 1) := by decide +kernel
theorem dX6_readEdge_42 : decode cX6_readEdge 42 = .ok (.aload_n 0, 1) := by decide +kernel
theorem dX6_readEdge_43 : decode cX6_readEdge 43 = .ok (.aload_n 1, 1) := by decide +kernel
theorem dX6_readEdge_44 : decode cX6_readEdge 44 = .ok (.iconst 0, 1) := by decide +kernel
theorem dX6_readEdge_45 : decode cX6_readEdge 45 = .ok (.aload_n 0, 1) := by decide +kernel
theorem dX6_readEdge_46 : decode cX6_readEdge 46 = .ok (.getfield 12, 3) := by decide +kernel
theorem dX6_readEdge_49 : decode cX6_readEdge 49 = .ok (.getfield 158, 3) := by decide +kernel
theorem dX6_readEdge_52 : decode cX6_readEdge 52 = .ok (.iconst 1, 1) := by decide +kernel
theorem dX6_readEdge_53 : decode cX6_readEdge 53 = .ok (.isub, 1) := by decide +kernel
theorem dX6_readEdge_54 : decode cX6_readEdge 54 = .ok (.invokevirtual 107, 3) := by decide +kernel
theorem dX6_readEdge_57 : decode cX6_readEdge 57 = .ok (.ifCond .ne 5, 3) := by decide +kernel
theorem dX6_readEdge_60 : decode cX6_readEdge 60 = .ok (.iconst 0, 1) := by decide +kernel
theorem dX6_readEdge_61 : decode cX6_readEdge 61 = .ok (.ireturn, 1) := by decide +kernel
theorem dX6_readEdge_62 : decode cX6_readEdge 62 = .ok (.aload_n 0, 1) := by decide +kernel
theorem dX6_readEdge_63 : decode cX6_readEdge 63 = .ok (.getfield 51, 3) := by decide +kernel
theorem dX6_readEdge_66 : decode cX6_readEdge 66 = .ok (.istore 4, 2) := by decide +kernel
theorem dX6_readEdge_68 : decode cX6_readEdge 68 = .ok (.aload_n 0, 1) := by decide +kernel
theorem dX6_readEdge_69 : decode cX6_readEdge 69 = .ok (.getfield 12, 3) := by decide +kernel
theorem dX6_readEdge_72 : decode cX6_readEdge 72 = .ok (.iload_n 3, 1) := by decide +kernel
theorem dX6_readEdge_73 : decode cX6_readEdge 73 = .ok (.iload 4, 2) := by decide +kernel
theorem dX6_readEdge_75 : decode cX6_readEdge 75 = .ok (.invokevirtual 168, 3) := by decide +kernel
theorem dX6_readEdge_78 : decode cX6_readEdge 78 = .ok (.ifCond .eq 9, 3) := by decide +kernel
theorem dX6_readEdge_81 : decode cX6_readEdge 81 = .ok (.aload_n 0, 1) := by decide +kernel
theorem dX6_readEdge_82 : decode cX6_readEdge 82 = .ok (.iconst 2, 1) := by decide +kernel
theorem dX6_readEdge_83 : decode cX6_readEdge 83 = .ok (.invokevirtual 103, 3) := by decide +kernel
theorem dX6_readEdge_86 : decode cX6_readEdge 86 = .ok (.ireturn, 1) := by decide +kernel
theorem dX6_readEdge_87 : decode cX6_readEdge 87 = .ok (.iload_n 3, 1) := by decide +kernel
theorem dX6_readEdge_88 : decode cX6_readEdge 88 = .ok (.iload 4, 2) := by decide +kernel
theorem dX6_readEdge_90 : decode cX6_readEdge 90 = .ok (.if_icmp .ne 9, 3) := by decide +kernel
theorem dX6_readEdge_93 : decode cX6_readEdge 93 = .ok (.aload_n 0, 1) := by decide +kernel
theorem dX6_readEdge_94 : decode cX6_readEdge 94 = .ok (.iconst 4, 1) := by decide +kernel
theorem dX6_readEdge_95 : decode cX6_readEdge 95 = .ok (.invokevirtual 103, 3) := by decide +kernel
theorem dX6_readEdge_98 : decode cX6_readEdge 98 = .ok (.ireturn, 1) := by decide +kernel
theorem dX6_readEdge_99 : decode cX6_readEdge 99 = .ok (.aload_n 0, 1) := by decide +kernel
theorem dX6_readEdge_100 : decode cX6_readEdge 100 = .ok (.aload_n 1, 1) := by decide +kernel
theorem dX6_readEdge_101 : decode cX6_readEdge 101 = .ok (.iconst 1, 1) := by decide +kernel
theorem dX6_readEdge_102 : decode cX6_readEdge 102 = .ok (.iload_n 2, 1) := by decide +kernel
theorem dX6_readEdge_103 : decode cX6_readEdge 103 = .ok (.iconst 1, 1) := by decide +kernel
theorem dX6_readEdge_104 : decode cX6_readEdge 104 = .ok (.isub, 1) := by decide +kernel
theorem dX6_readEdge_105 : decode cX6_readEdge 105 = .ok (.invokevirtual 107, 3) := by decide +kernel
theorem dX6_readEdge_108 : decode cX6_readEdge 108 = .ok (.ifCond .ne 5, 3) := by decide +kernel
theorem dX6_readEdge_111 : decode cX6_readEdge 111 = .ok (.iconst 0, 1) := by decide +kernel
theorem dX6_readEdge_112 : decode cX6_readEdge 112 = .ok (.ireturn, 1) := by decide +kernel
theorem dX6_readEdge_113 : decode cX6_readEdge 113 = .ok (.aload_n 0, 1) := by decide +kernel
theorem dX6_readEdge_114 : decode cX6_readEdge 114 = .ok (.getfield 12, 3) := by decide +kernel
theorem dX6_readEdge_117 : decode cX6_readEdge 117 = .ok (.iload_n 3, 1) := by decide +kernel
theorem dX6_readEdge_118 : decode cX6_readEdge 118 = .ok (.iload 4, 2) := by decide +kernel
theorem dX6_readEdge_120 : decode cX6_readEdge 120 = .ok (.aload_n 0, 1) := by decide +kernel
theorem dX6_readEdge_121 : decode cX6_readEdge 121 = .ok (.getfield 51, 3) := by decide +kernel
theorem dX6_readEdge_124 : decode cX6_readEdge 124 = .ok (.invokevirtual 171, 3) := by decide +kernel
theorem dX6_readEdge_127 : decode cX6_readEdge 127 = .ok (.iconst 1, 1) := by decide +kernel
theorem dX6_readEdge_128 : decode cX6_readEdge 128 = .ok (.ireturn, 1) := by decide +kernel
theorem dX6_readBase_0 : decode cX6_readBase 0 = .ok (.aload_n 2, 1) := by decide +kernel
theorem dX6_readBase_1 : decode cX6_readBase 1 = .ok (.getfield 174, 3) := by decide +kernel
theorem dX6_readBase_4 : decode cX6_readBase 4 = .ok (.iconst 5, 1) := by decide +kernel
theorem dX6_readBase_5 : decode cX6_readBase 5 = .ok (.if_icmp .lt 9, 3) := by decide +kernel
theorem dX6_readBase_8 : decode cX6_readBase 8 = .ok (.aload_n 0, 1) := by decide +kernel
theorem dX6_readBase_9 : decode cX6_readBase 9 = .ok (.iconst 5, 1) := by decide +kernel
theorem dX6_readBase_10 : decode cX6_readBase 10 = .ok (.invokevirtual 103, 3) := by decide +kernel
theorem dX6_readBase_13 : decode cX6_readBase 13 = .ok (.ireturn, 1) := by decide +kernel
theorem dX6_readBase_14 : decode cX6_readBase 14 = .ok (.aload_n 0, 1) := by decide +kernel
theorem dX6_readBase_15 : decode cX6_readBase 15 = .ok (.aload_n 1, 1) := by decide +kernel
theorem dX6_readBase_16 : decode cX6_readBase 16 = .ok (.aload_n 2, 1) := by decide +kernel
theorem dX6_readBase_17 : decode cX6_readBase 17 = .ok (.invokevirtual 124, 3) := by decide +kernel
theorem dX6_readBase_20 : decode cX6_readBase 20 = .ok (.ifCond .ne 5, 3) := by decide +kernel
theorem dX6_readBase_23 : decode cX6_readBase 23 = .ok (.iconst 0, 1) := by decide +kernel
theorem dX6_readBase_24 : decode cX6_readBase 24 = .ok (.ireturn, 1) := by decide +kernel
theorem dX6_readBase_25 : decode cX6_readBase 25 = .ok (.aload_n 2, 1) := by decide +kernel
theorem dX6_readBase_26 : decode cX6_readBase 26 = .ok (.aload_n 0, 1) := by decide +kernel
theorem dX6_readBase_27 : decode cX6_readBase 27 = .ok (.getfield 51, 3) := by decide +kernel
theorem dX6_readBase_30 : decode cX6_readBase 30 = .ok (.iconst 3, 1) := by decide +kernel
theorem dX6_readBase_31 : decode cX6_readBase 31 = .ok (.aload_n 2, 1) := by decide +kernel
theorem dX6_readBase_32 : decode cX6_readBase 32 = .ok (.getfield 174, 3) := by decide +kernel
theorem dX6_readBase_35 : decode cX6_readBase 35 = .ok (.invokevirtual 127, 3) := by decide +kernel
theorem dX6_readBase_38 : decode cX6_readBase 38 = .ok (.aload_n 2, 1) := by decide +kernel
theorem dX6_readBase_39 : decode cX6_readBase 39 = .ok (.getfield 177, 3) := by decide +kernel
theorem dX6_readBase_42 : decode cX6_readBase 42 = .ok (.aload_n 2, 1) := by decide +kernel
theorem dX6_readBase_43 : decode cX6_readBase 43 = .ok (.getfield 174, 3) := by decide +kernel
theorem dX6_readBase_46 : decode cX6_readBase 46 = .ok (.aaload, 1) := by decide +kernel
theorem dX6_readBase_47 : decode cX6_readBase 47 = .ok (.astore_n 3, 1) := by decide +kernel
theorem dX6_readBase_48 : decode cX6_readBase 48 = .ok (.aload_n 0, 1) := by decide +kernel
theorem dX6_readBase_49 : decode cX6_readBase 49 = .ok (.aload_n 1, 1) := by decide +kernel
theorem dX6_readBase_50 : decode cX6_readBase 50 = .ok (.iconst 0, 1) := by decide +kernel
theorem dX6_readBase_51 : decode cX6_readBase 51 = .ok (.aload_n 2, 1) := by decide +kernel
theorem dX6_readBase_52 : decode cX6_readBase 52 = .ok (.getfield 114, 3) := by decide +kernel
theorem dX6_readBase_55 : decode cX6_readBase 55 = .ok (.iconst 1, 1) := by decide +kernel
theorem dX6_readBase_56 : decode cX6_readBase 56 = .ok (.isub, 1) := by decide +kernel
theorem dX6_readBase_57 : decode cX6_readBase 57 = .ok (.invokevirtual 107, 3) := by decide +kernel
theorem dX6_readBase_60 : decode cX6_readBase 60 = .ok (.ifCond .ne 5, 3) := by decide +kernel
theorem dX6_readBase_63 : decode cX6_readBase 63 = .ok (.iconst 0, 1) := by decide +kernel
theorem dX6_readBase_64 : decode cX6_readBase 64 = .ok (.ireturn, 1) := by decide +kernel
theorem dX6_readBase_65 : decode cX6_readBase 65 = .ok (.aload_n 3, 1) := by decide +kernel
theorem dX6_readBase_66 : decode cX6_readBase 66 = .ok (.aload_n 0, 1) := by decide +kernel
theorem dX6_readBase_67 : decode cX6_readBase 67 = .ok (.getfield 51, 3) := by decide +kernel
theorem dX6_readBase_70 : decode cX6_readBase 70 = .ok (.putfield 181, 3) := by decide +kernel
theorem dX6_readBase_73 : decode cX6_readBase 73 = .ok (.aload_n 0, 1) := by decide +kernel
theorem dX6_readBase_74 : decode cX6_readBase 74 = .ok (.aload_n 1, 1) := by decide +kernel
theorem dX6_readBase_75 : decode cX6_readBase 75 = .ok (.iconst 0, 1) := by decide +kernel
theorem dX6_readBase_76 : decode cX6_readBase 76 = .ok (.aload_n 2, 1) := by decide +kernel
theorem dX6_readBase_77 : decode cX6_readBase 77 = .ok (.getfield 114, 3) := by decide +kernel
theorem dX6_readBase_80 : decode cX6_readBase 80 = .ok (.iconst 1, 1) := by decide +kernel
theorem dX6_readBase_81 : decode cX6_readBase 81 = .ok (.isub, 1) := by decide +kernel
theorem dX6_readBase_82 : decode cX6_readBase 82 = .ok (.invokevirtual 107, 3) := by decide +kernel
theorem dX6_readBase_85 : decode cX6_readBase 85 = .ok (.ifCond .ne 5, 3) := by decide +kernel
theorem dX6_readBase_88 : decode cX6_readBase 88 = .ok (.iconst 0, 1) := by decide +kernel
theorem dX6_readBase_89 : decode cX6_readBase 89 = .ok (.ireturn, 1) := by decide +kernel
theorem dX6_readBase_90 : decode cX6_readBase 90 = .ok (.aload_n 3, 1) := by decide +kernel
theorem dX6_readBase_91 : decode cX6_readBase 91 = .ok (.aload_n 0, 1) := by decide +kernel
theorem dX6_readBase_92 : decode cX6_readBase 92 = .ok (.getfield 51, 3) := by decide +kernel
theorem dX6_readBase_95 : decode cX6_readBase 95 = .ok (.putfield 186, 3) := by decide +kernel
theorem dX6_readBase_98 : decode cX6_readBase 98 = .ok (.aload_n 0, 1) := by decide +kernel
theorem dX6_readBase_99 : decode cX6_readBase 99 = .ok (.aload_n 1, 1) := by decide +kernel
theorem dX6_readBase_100 : decode cX6_readBase 100 = .ok (.iconst 0, 1) := by decide +kernel
theorem dX6_readBase_101 : decode cX6_readBase 101 = .ok (.aload_n 2, 1) := by decide +kernel
theorem dX6_readBase_102 : decode cX6_readBase 102 = .ok (.getfield 114, 3) := by decide +kernel
theorem dX6_readBase_105 : decode cX6_readBase 105 = .ok (.iconst 1, 1) := by decide +kernel
theorem dX6_readBase_106 : decode cX6_readBase 106 = .ok (.isub, 1) := by decide +kernel
theorem dX6_readBase_107 : decode cX6_readBase 107 = .ok (.invokevirtual 107, 3) := by decide +kernel
theorem dX6_readBase_110 : decode cX6_readBase 110 = .ok (.ifCond .ne 5, 3) := by decide +kernel
theorem dX6_readBase_113 : decode cX6_readBase 113 = .ok (.iconst 0, 1) := by decide +kernel
theorem dX6_readBase_114 : decode cX6_readBase 114 = .ok (.ireturn, 1) := by decide +kernel
theorem dX6_readBase_115 : decode cX6_readBase 115 = .ok (.aload_n 3, 1) := by decide +kernel
theorem dX6_readBase_116 : decode cX6_readBase 116 = .ok (.aload_n 0, 1) := by decide +kernel
theorem dX6_readBase_117 : decode cX6_readBase 117 = .ok (.getfield 51, 3) := by decide +kernel
theorem dX6_readBase_120 : decode cX6_readBase 120 = .ok (.putfield 189, 3) := by decide +kernel
theorem dX6_readBase_123 : decode cX6_readBase 123 = .ok (.aload_n 0, 1) := by decide +kernel
theorem dX6_readBase_124 : decode cX6_readBase 124 = .ok (.aload_n 1, 1) := by decide +kernel
theorem dX6_readBase_125 : decode cX6_readBase 125 = .ok (.iconst 0, 1) := by decide +kernel
theorem dX6_readBase_126 : decode cX6_readBase 126 = .ok (.aload_n 2, 1) := by decide +kernel
theorem dX6_readBase_127 : decode cX6_readBase 127 = .ok (.getfield 114, 3) := by decide +kernel
theorem dX6_readBase_130 : decode cX6_readBase 130 = .ok (.iconst 1, 1) := by decide +kernel
theorem dX6_readBase_131 : decode cX6_readBase 131 = .ok (.isub, 1) := by decide +kernel
theorem dX6_readBase_132 : decode cX6_readBase 132 = .ok (.invokevirtual 107, 3) := by decide +kernel
theorem dX6_readBase_135 : decode cX6_readBase 135 = .ok (.ifCond .ne 5, 3) := by decide +kernel
theorem dX6_readBase_138 : decode cX6_readBase 138 = .ok (.iconst 0, 1) := by decide +kernel
theorem dX6_readBase_139 : decode cX6_readBase 139 = .ok (.ireturn, 1) := by decide +kernel
theorem dX6_readBase_140 : decode cX6_readBase 140 = .ok (.aload_n 3, 1) := by decide +kernel
theorem dX6_readBase_141 : decode cX6_readBase 141 = .ok (.aload_n 0, 1) := by decide +kernel
theorem dX6_readBase_142 : decode cX6_readBase 142 = .ok (.getfield 51, 3) := by decide +kernel
theorem dX6_readBase_145 : decode cX6_readBase 145 = .ok (.putfield 192, 3) := by decide +kernel
theorem dX6_readBase_148 : decode cX6_readBase 148 = .ok (.aload_n 3, 1) := by decide +kernel
theorem dX6_readBase_149 : decode cX6_readBase 149 = .ok (.aload_n 2, 1) := by decide +kernel
theorem dX6_readBase_150 : decode cX6_readBase 150 = .ok (.getfield 114, 3) := by decide +kernel
theorem dX6_readBase_153 : decode cX6_readBase 153 = .ok (.invokevirtual 195, 3) := by decide +kernel
theorem dX6_readBase_156 : decode cX6_readBase 156 = .ok (.ifCond .ne 9, 3) := by decide +kernel
theorem dX6_readBase_159 : decode cX6_readBase 159 = .ok (.aload_n 0, 1) := by decide +kernel
theorem dX6_readBase_160 : decode cX6_readBase 160 = .ok (.iconst 4, 1) := by decide +kernel
theorem dX6_readBase_161 : decode cX6_readBase 161 = .ok (.invokevirtual 103, 3) := by decide +kernel
theorem dX6_readBase_164 : decode cX6_readBase 164 = .ok (.ireturn, 1) := by decide +kernel
theorem dX6_readBase_165 : decode cX6_readBase 165 = .ok (.aload_n 2, 1) := by decide +kernel
theorem dX6_readBase_166 : decode cX6_readBase 166 = .ok (.dup, 1) := by decide +kernel
theorem dX6_readBase_167 : decode cX6_readBase 167 = .ok (.getfield 174, 3) := by decide +kernel
theorem dX6_readBase_170 : decode cX6_readBase 170 = .ok (.iconst 1, 1) := by decide +kernel
theorem dX6_readBase_171 : decode cX6_readBase 171 = .ok (.iadd, 1) := by decide +kernel
theorem dX6_readBase_172 : decode cX6_readBase 172 = .ok (.putfield 174, 3) := by decide +kernel
theorem dX6_readBase_175 : decode cX6_readBase 175 = .ok (.aload_n 0, 1) := by decide +kernel
theorem dX6_readBase_176 : decode cX6_readBase 176 = .ok (.aload_n 1, 1) := by decide +kernel
theorem dX6_readBase_177 : decode cX6_readBase 177 = .ok (.invokevirtual 117, 3) := by decide +kernel
theorem dX6_readBase_180 : decode cX6_readBase 180 = .ok (.ireturn, 1) := by decide +kernel
theorem dX6_readNode_0 : decode cX6_readNode 0 = .ok (.aload_n 2, 1) := by decide +kernel
theorem dX6_readNode_1 : decode cX6_readNode 1 = .ok (.getfield 199, 3) := by decide +kernel
theorem dX6_readNode_4 : decode cX6_readNode 4 = .ok (.getfield 203, 3) := by decide +kernel
theorem dX6_readNode_7 : decode cX6_readNode 7 = .ok (.bipush 6, 2) := by decide +kernel
theorem dX6_readNode_9 : decode cX6_readNode 9 = .ok (.if_icmp .lt 9, 3) := by decide +kernel
theorem dX6_readNode_12 : decode cX6_readNode 12 = .ok (.aload_n 0, 1) := by decide +kernel
theorem dX6_readNode_13 : decode cX6_readNode 13 = .ok (.iconst 5, 1) := by decide +kernel
theorem dX6_readNode_14 : decode cX6_readNode 14 = .ok (.invokevirtual 103, 3) := by decide +kernel
theorem dX6_readNode_17 : decode cX6_readNode 17 = .ok (.ireturn, 1) := by decide +kernel
theorem dX6_readNode_18 : decode cX6_readNode 18 = .ok (.aload_n 0, 1) := by decide +kernel
theorem dX6_readNode_19 : decode cX6_readNode 19 = .ok (.aload_n 1, 1) := by decide +kernel
theorem dX6_readNode_20 : decode cX6_readNode 20 = .ok (.aload_n 2, 1) := by decide +kernel
theorem dX6_readNode_21 : decode cX6_readNode 21 = .ok (.invokevirtual 124, 3) := by decide +kernel
theorem dX6_readNode_24 : decode cX6_readNode 24 = .ok (.ifCond .ne 5, 3) := by decide +kernel
theorem dX6_readNode_27 : decode cX6_readNode 27 = .ok (.iconst 0, 1) := by decide +kernel
theorem dX6_readNode_28 : decode cX6_readNode 28 = .ok (.ireturn, 1) := by decide +kernel
theorem dX6_readNode_29 : decode cX6_readNode 29 = .ok (.aload_n 2, 1) := by decide +kernel
theorem dX6_readNode_30 : decode cX6_readNode 30 = .ok (.aload_n 0, 1) := by decide +kernel
theorem dX6_readNode_31 : decode cX6_readNode 31 = .ok (.getfield 51, 3) := by decide +kernel
theorem dX6_readNode_34 : decode cX6_readNode 34 = .ok (.iconst 4, 1) := by decide +kernel
theorem dX6_readNode_35 : decode cX6_readNode 35 = .ok (.aload_n 2, 1) := by decide +kernel
theorem dX6_readNode_36 : decode cX6_readNode 36 = .ok (.getfield 199, 3) := by decide +kernel
theorem dX6_readNode_39 : decode cX6_readNode 39 = .ok (.getfield 203, 3) := by decide +kernel
theorem dX6_readNode_42 : decode cX6_readNode 42 = .ok (.invokevirtual 127, 3) := by decide +kernel
theorem dX6_readNode_45 : decode cX6_readNode 45 = .ok (.aload_n 0, 1) := by decide +kernel
theorem dX6_readNode_46 : decode cX6_readNode 46 = .ok (.aload_n 1, 1) := by decide +kernel
theorem dX6_readNode_47 : decode cX6_readNode 47 = .ok (.aload_n 2, 1) := by decide +kernel
theorem dX6_readNode_48 : decode cX6_readNode 48 = .ok (.iconst 1, 1) := by decide +kernel
theorem dX6_readNode_49 : decode cX6_readNode 49 = .ok (.invokevirtual 208, 3) := by decide +kernel
theorem dX6_readNode_52 : decode cX6_readNode 52 = .ok (.ifCond .ne 5, 3) := by decide +kernel
theorem dX6_readNode_55 : decode cX6_readNode 55 = .ok (.iconst 0, 1) := by decide +kernel
theorem dX6_readNode_56 : decode cX6_readNode 56 = .ok (.ireturn, 1) := by decide +kernel
theorem dX6_readNode_57 : decode cX6_readNode 57 = .ok (.aload_n 2, 1) := by decide +kernel
theorem dX6_readNode_58 : decode cX6_readNode 58 = .ok (.getfield 199, 3) := by decide +kernel
theorem dX6_readNode_61 : decode cX6_readNode 61 = .ok (.aload_n 2, 1) := by decide +kernel
theorem dX6_readNode_62 : decode cX6_readNode 62 = .ok (.getfield 131, 3) := by decide +kernel
theorem dX6_readNode_65 : decode cX6_readNode 65 = .ok (.aload_n 0, 1) := by decide +kernel
theorem dX6_readNode_66 : decode cX6_readNode 66 = .ok (.getfield 51, 3) := by decide +kernel
theorem dX6_readNode_69 : decode cX6_readNode 69 = .ok (.aaload, 1) := by decide +kernel
theorem dX6_readNode_70 : decode cX6_readNode 70 = .ok (.invokevirtual 212, 3) := by decide +kernel
theorem dX6_readNode_73 : decode cX6_readNode 73 = .ok (.aload_n 0, 1) := by decide +kernel
theorem dX6_readNode_74 : decode cX6_readNode 74 = .ok (.aload_n 1, 1) := by decide +kernel
theorem dX6_readNode_75 : decode cX6_readNode 75 = .ok (.invokevirtual 117, 3) := by decide +kernel
theorem dX6_readNode_78 : decode cX6_readNode 78 = .ok (.ireturn, 1) := by decide +kernel
theorem dX6_readWire_0 : decode cX6_readWire 0 = .ok (.aload_n 2, 1) := by decide +kernel
theorem dX6_readWire_1 : decode cX6_readWire 1 = .ok (.getfield 199, 3) := by decide +kernel
theorem dX6_readWire_4 : decode cX6_readWire 4 = .ok (.getfield 216, 3) := by decide +kernel
theorem dX6_readWire_7 : decode cX6_readWire 7 = .ok (.bipush 10, 2) := by decide +kernel
theorem dX6_readWire_9 : decode cX6_readWire 9 = .ok (.if_icmp .lt 9, 3) := by decide +kernel
theorem dX6_readWire_12 : decode cX6_readWire 12 = .ok (.aload_n 0, 1) := by decide +kernel
theorem dX6_readWire_13 : decode cX6_readWire 13 = .ok (.iconst 5, 1) := by decide +kernel
theorem dX6_readWire_14 : decode cX6_readWire 14 = .ok (.invokevirtual 103, 3) := by decide +kernel
theorem dX6_readWire_17 : decode cX6_readWire 17 = .ok (.ireturn, 1) := by decide +kernel
theorem dX6_readWire_18 : decode cX6_readWire 18 = .ok (.aload_n 0, 1) := by decide +kernel
theorem dX6_readWire_19 : decode cX6_readWire 19 = .ok (.aload_n 1, 1) := by decide +kernel
theorem dX6_readWire_20 : decode cX6_readWire 20 = .ok (.aload_n 2, 1) := by decide +kernel
theorem dX6_readWire_21 : decode cX6_readWire 21 = .ok (.iconst (-1), 1) := by decide +kernel
theorem dX6_readWire_22 : decode cX6_readWire 22 = .ok (.invokevirtual 219, 3) := by decide +kernel
theorem dX6_readWire_25 : decode cX6_readWire 25 = .ok (.ifCond .ne 5, 3) := by decide +kernel
theorem dX6_readWire_28 : decode cX6_readWire 28 = .ok (.iconst 0, 1) := by decide +kernel
theorem dX6_readWire_29 : decode cX6_readWire 29 = .ok (.ireturn, 1) := by decide +kernel
theorem dX6_readWire_30 : decode cX6_readWire 30 = .ok (.aload_n 0, 1) := by decide +kernel
theorem dX6_readWire_31 : decode cX6_readWire 31 = .ok (.getfield 51, 3) := by decide +kernel
theorem dX6_readWire_34 : decode cX6_readWire 34 = .ok (.istore_n 3, 1) := by decide +kernel
theorem dX6_readWire_35 : decode cX6_readWire 35 = .ok (.aload_n 0, 1) := by decide +kernel
theorem dX6_readWire_36 : decode cX6_readWire 36 = .ok (.aload_n 1, 1) := by decide +kernel
theorem dX6_readWire_37 : decode cX6_readWire 37 = .ok (.aload_n 2, 1) := by decide +kernel
theorem dX6_readWire_38 : decode cX6_readWire 38 = .ok (.iload_n 3, 1) := by decide +kernel
theorem dX6_readWire_39 : decode cX6_readWire 39 = .ok (.invokevirtual 219, 3) := by decide +kernel
theorem dX6_readWire_42 : decode cX6_readWire 42 = .ok (.ifCond .ne 5, 3) := by decide +kernel
theorem dX6_readWire_45 : decode cX6_readWire 45 = .ok (.iconst 0, 1) := by decide +kernel
theorem dX6_readWire_46 : decode cX6_readWire 46 = .ok (.ireturn, 1) := by decide +kernel
theorem dX6_readWire_47 : decode cX6_readWire 47 = .ok (.aload_n 2, 1) := by decide +kernel
theorem dX6_readWire_48 : decode cX6_readWire 48 = .ok (.getfield 199, 3) := by decide +kernel
theorem dX6_readWire_51 : decode cX6_readWire 51 = .ok (.iload_n 3, 1) := by decide +kernel
theorem dX6_readWire_52 : decode cX6_readWire 52 = .ok (.aload_n 0, 1) := by decide +kernel
theorem dX6_readWire_53 : decode cX6_readWire 53 = .ok (.getfield 51, 3) := by decide +kernel
theorem dX6_readWire_56 : decode cX6_readWire 56 = .ok (.invokevirtual 222, 3) := by decide +kernel
theorem dX6_readWire_59 : decode cX6_readWire 59 = .ok (.aload_n 0, 1) := by decide +kernel
theorem dX6_readWire_60 : decode cX6_readWire 60 = .ok (.aload_n 1, 1) := by decide +kernel
theorem dX6_readWire_61 : decode cX6_readWire 61 = .ok (.invokevirtual 117, 3) := by decide +kernel
theorem dX6_readWire_64 : decode cX6_readWire 64 = .ok (.ireturn, 1) := by decide +kernel
theorem dX6_takeLeg_0 : decode cX6_takeLeg 0 = .ok (.aload_n 0, 1) := by decide +kernel
theorem dX6_takeLeg_1 : decode cX6_takeLeg 1 = .ok (.aload_n 1, 1) := by decide +kernel
theorem dX6_takeLeg_2 : decode cX6_takeLeg 2 = .ok (.aload_n 2, 1) := by decide +kernel
theorem dX6_takeLeg_3 : decode cX6_takeLeg 3 = .ok (.iconst 4, 1) := by decide +kernel
theorem dX6_takeLeg_4 : decode cX6_takeLeg 4 = .ok (.invokevirtual 208, 3) := by decide +kernel
theorem dX6_takeLeg_7 : decode cX6_takeLeg 7 = .ok (.ifCond .ne 5, 3) := by decide +kernel
theorem dX6_takeLeg_10 : decode cX6_takeLeg 10 = .ok (.iconst 0, 1) := by decide +kernel
theorem dX6_takeLeg_11 : decode cX6_takeLeg 11 = .ok (.ireturn, 1) := by decide +kernel
theorem dX6_takeLeg_12 : decode cX6_takeLeg 12 = .ok (.aload_n 0, 1) := by decide +kernel
theorem dX6_takeLeg_13 : decode cX6_takeLeg 13 = .ok (.getfield 51, 3) := by decide +kernel
theorem dX6_takeLeg_16 : decode cX6_takeLeg 16 = .ok (.istore 4, 2) := by decide +kernel
theorem dX6_takeLeg_18 : decode cX6_takeLeg 18 = .ok (.aload_n 0, 1) := by decide +kernel
theorem dX6_takeLeg_19 : decode cX6_takeLeg 19 = .ok (.aload_n 1, 1) := by decide +kernel
theorem dX6_takeLeg_20 : decode cX6_takeLeg 20 = .ok (.iconst 0, 1) := by decide +kernel
theorem dX6_takeLeg_21 : decode cX6_takeLeg 21 = .ok (.aload_n 2, 1) := by decide +kernel
theorem dX6_takeLeg_22 : decode cX6_takeLeg 22 = .ok (.getfield 199, 3) := by decide +kernel
theorem dX6_takeLeg_25 : decode cX6_takeLeg 25 = .ok (.getfield 226, 3) := by decide +kernel
theorem dX6_takeLeg_28 : decode cX6_takeLeg 28 = .ok (.iload 4, 2) := by decide +kernel
theorem dX6_takeLeg_30 : decode cX6_takeLeg 30 = .ok (.aaload, 1) := by decide +kernel
theorem dX6_takeLeg_31 : decode cX6_takeLeg 31 = .ok (.getfield 135, 3) := by decide +kernel
theorem dX6_takeLeg_34 : decode cX6_takeLeg 34 = .ok (.iconst 1, 1) := by decide +kernel
theorem dX6_takeLeg_35 : decode cX6_takeLeg 35 = .ok (.isub, 1) := by decide +kernel
theorem dX6_takeLeg_36 : decode cX6_takeLeg 36 = .ok (.invokevirtual 107, 3) := by decide +kernel
theorem dX6_takeLeg_39 : decode cX6_takeLeg 39 = .ok (.ifCond .ne 5, 3) := by decide +kernel
theorem dX6_takeLeg_42 : decode cX6_takeLeg 42 = .ok (.iconst 0, 1) := by decide +kernel
theorem dX6_takeLeg_43 : decode cX6_takeLeg 43 = .ok (.ireturn, 1) := by decide +kernel
theorem dX6_takeLeg_44 : decode cX6_takeLeg 44 = .ok (.aload_n 0, 1) := by decide +kernel
theorem dX6_takeLeg_45 : decode cX6_takeLeg 45 = .ok (.dup, 1) := by decide +kernel
theorem dX6_takeLeg_46 : decode cX6_takeLeg 46 = .ok (.getfield 51, 3) := by decide +kernel
theorem dX6_takeLeg_49 : decode cX6_takeLeg 49 = .ok (.iconst 4, 1) := by decide +kernel
theorem dX6_takeLeg_50 : decode cX6_takeLeg 50 = .ok (.iload 4, 2) := by decide +kernel
theorem dX6_takeLeg_52 : decode cX6_takeLeg 52 = .ok (.imul, 1) := by decide +kernel
theorem dX6_takeLeg_53 : decode cX6_takeLeg 53 = .ok (.iadd, 1) := by decide +kernel
theorem dX6_takeLeg_54 : decode cX6_takeLeg 54 = .ok (.putfield 51, 3) := by decide +kernel
theorem dX6_takeLeg_57 : decode cX6_takeLeg 57 = .ok (.aload_n 0, 1) := by decide +kernel
theorem dX6_takeLeg_58 : decode cX6_takeLeg 58 = .ok (.getfield 51, 3) := by decide +kernel
theorem dX6_takeLeg_61 : decode cX6_takeLeg 61 = .ok (.iload_n 3, 1) := by decide +kernel
theorem dX6_takeLeg_62 : decode cX6_takeLeg 62 = .ok (.if_icmp .eq 17, 3) := by decide +kernel
theorem dX6_takeLeg_65 : decode cX6_takeLeg 65 = .ok (.aload_n 2, 1) := by decide +kernel
theorem dX6_takeLeg_66 : decode cX6_takeLeg 66 = .ok (.getfield 199, 3) := by decide +kernel
theorem dX6_takeLeg_69 : decode cX6_takeLeg 69 = .ok (.aload_n 0, 1) := by decide +kernel
theorem dX6_takeLeg_70 : decode cX6_takeLeg 70 = .ok (.getfield 51, 3) := by decide +kernel
theorem dX6_takeLeg_73 : decode cX6_takeLeg 73 = .ok (.invokevirtual 229, 3) := by decide +kernel
theorem dX6_takeLeg_76 : decode cX6_takeLeg 76 = .ok (.ifCond .eq 9, 3) := by decide +kernel
theorem dX6_takeLeg_79 : decode cX6_takeLeg 79 = .ok (.aload_n 0, 1) := by decide +kernel
theorem dX6_takeLeg_80 : decode cX6_takeLeg 80 = .ok (.iconst 2, 1) := by decide +kernel
theorem dX6_takeLeg_81 : decode cX6_takeLeg 81 = .ok (.invokevirtual 103, 3) := by decide +kernel
theorem dX6_takeLeg_84 : decode cX6_takeLeg 84 = .ok (.ireturn, 1) := by decide +kernel
theorem dX6_takeLeg_85 : decode cX6_takeLeg 85 = .ok (.iconst 1, 1) := by decide +kernel
theorem dX6_takeLeg_86 : decode cX6_takeLeg 86 = .ok (.ireturn, 1) := by decide +kernel
theorem dX6_takeNewName_0 : decode cX6_takeNewName 0 = .ok (.aload_n 0, 1) := by decide +kernel
theorem dX6_takeNewName_1 : decode cX6_takeNewName 1 = .ok (.aload_n 1, 1) := by decide +kernel
theorem dX6_takeNewName_2 : decode cX6_takeNewName 2 = .ok (.invokevirtual 77, 3) := by decide +kernel
theorem dX6_takeNewName_5 : decode cX6_takeNewName 5 = .ok (.aload_n 0, 1) := by decide +kernel
theorem dX6_takeNewName_6 : decode cX6_takeNewName 6 = .ok (.getfield 45, 3) := by decide +kernel
theorem dX6_takeNewName_9 : decode cX6_takeNewName 9 = .ok (.ifCond .ne 11, 3) := by decide +kernel
theorem dX6_takeNewName_12 : decode cX6_takeNewName 12 = .ok (.aload_n 0, 1) := by decide +kernel
theorem dX6_takeNewName_13 : decode cX6_takeNewName 13 = .ok (.invokevirtual 81, 3) := by decide +kernel
theorem dX6_takeNewName_16 : decode cX6_takeNewName 16 = .ok (.iconst (-1), 1) := by decide +kernel
theorem dX6_takeNewName_17 : decode cX6_takeNewName 17 = .ok (.if_icmp .eq 9, 3) := by decide +kernel
theorem dX6_takeNewName_20 : decode cX6_takeNewName 20 = .ok (.aload_n 0, 1) := by decide +kernel
theorem dX6_takeNewName_21 : decode cX6_takeNewName 21 = .ok (.iconst 1, 1) := by decide +kernel
theorem dX6_takeNewName_22 : decode cX6_takeNewName 22 = .ok (.invokevirtual 103, 3) := by decide +kernel
theorem dX6_takeNewName_25 : decode cX6_takeNewName 25 = .ok (.ireturn, 1) := by decide +kernel
theorem dX6_takeNewName_26 : decode cX6_takeNewName 26 = .ok (.aload_n 2, 1) := by decide +kernel
theorem dX6_takeNewName_27 : decode cX6_takeNewName 27 = .ok (.aload_n 0, 1) := by decide +kernel
theorem dX6_takeNewName_28 : decode cX6_takeNewName 28 = .ok (.getfield 51, 3) := by decide +kernel
theorem dX6_takeNewName_31 : decode cX6_takeNewName 31 = .ok (.invokevirtual 232, 3) := by decide +kernel
theorem dX6_takeNewName_34 : decode cX6_takeNewName 34 = .ok (.ifCond .eq 11, 3) := by decide +kernel
theorem dX6_takeNewName_37 : decode cX6_takeNewName 37 = .ok (.aload_n 0, 1) := by decide +kernel
theorem dX6_takeNewName_38 : decode cX6_takeNewName 38 = .ok (.iconst 2, 1) := by decide +kernel
theorem dX6_takeNewName_39 : decode cX6_takeNewName 39 = .ok (.invokevirtual 103, 3) := by decide +kernel
theorem dX6_takeNewName_42 : decode cX6_takeNewName 42 = .ok (.ifCond .eq 7, 3) := by decide +kernel
theorem dX6_takeNewName_45 : decode cX6_takeNewName 45 = .ok (.iconst 1, 1) := by decide +kernel
theorem dX6_takeNewName_46 : decode cX6_takeNewName 46 = .ok (.goto 4, 3) := by decide +kernel
theorem dX6_takeNewName_49 : decode cX6_takeNewName 49 = .ok (.iconst 0, 1) := by decide +kernel
theorem dX6_takeNewName_50 : decode cX6_takeNewName 50 = .ok (.ireturn, 1) := by decide +kernel
theorem dX6_takeKnownName_0 : decode cX6_takeKnownName 0 = .ok (.aload_n 0, 1) := by decide +kernel
theorem dX6_takeKnownName_1 : decode cX6_takeKnownName 1 = .ok (.aload_n 1, 1) := by decide +kernel
theorem dX6_takeKnownName_2 : decode cX6_takeKnownName 2 = .ok (.invokevirtual 77, 3) := by decide +kernel
theorem dX6_takeKnownName_5 : decode cX6_takeKnownName 5 = .ok (.aload_n 0, 1) := by decide +kernel
theorem dX6_takeKnownName_6 : decode cX6_takeKnownName 6 = .ok (.getfield 45, 3) := by decide +kernel
theorem dX6_takeKnownName_9 : decode cX6_takeKnownName 9 = .ok (.ifCond .ne 11, 3) := by decide +kernel
theorem dX6_takeKnownName_12 : decode cX6_takeKnownName 12 = .ok (.aload_n 0, 1) := by decide +kernel
theorem dX6_takeKnownName_13 : decode cX6_takeKnownName 13 = .ok (.invokevirtual 81, 3) := by decide +kernel
theorem dX6_takeKnownName_16 : decode cX6_takeKnownName 16 = .ok (.iconst (-1), 1) := by decide +kernel
theorem dX6_takeKnownName_17 : decode cX6_takeKnownName 17 = .ok (.if_icmp .eq 9, 3) := by decide +kernel
theorem dX6_takeKnownName_20 : decode cX6_takeKnownName 20 = .ok (.aload_n 0, 1) := by decide +kernel
theorem dX6_takeKnownName_21 : decode cX6_takeKnownName 21 = .ok (.iconst 1, 1) := by decide +kernel
theorem dX6_takeKnownName_22 : decode cX6_takeKnownName 22 = .ok (.invokevirtual 103, 3) := by decide +kernel
theorem dX6_takeKnownName_25 : decode cX6_takeKnownName 25 = .ok (.ireturn, 1) := by decide +kernel
theorem dX6_takeKnownName_26 : decode cX6_takeKnownName 26 = .ok (.aload_n 0, 1) := by decide +kernel
theorem dX6_takeKnownName_27 : decode cX6_takeKnownName 27 = .ok (.aload_n 2, 1) := by decide +kernel
theorem dX6_takeKnownName_28 : decode cX6_takeKnownName 28 = .ok (.aload_n 0, 1) := by decide +kernel
theorem dX6_takeKnownName_29 : decode cX6_takeKnownName 29 = .ok (.getfield 51, 3) := by decide +kernel
theorem dX6_takeKnownName_32 : decode cX6_takeKnownName 32 = .ok (.iload_n 3, 1) := by decide +kernel
theorem dX6_takeKnownName_33 : decode cX6_takeKnownName 33 = .ok (.invokevirtual 235, 3) := by decide +kernel
theorem dX6_takeKnownName_36 : decode cX6_takeKnownName 36 = .ok (.putfield 51, 3) := by decide +kernel
theorem dX6_takeKnownName_39 : decode cX6_takeKnownName 39 = .ok (.aload_n 0, 1) := by decide +kernel
theorem dX6_takeKnownName_40 : decode cX6_takeKnownName 40 = .ok (.getfield 51, 3) := by decide +kernel
theorem dX6_takeKnownName_43 : decode cX6_takeKnownName 43 = .ok (.iconst (-1), 1) := by decide +kernel
theorem dX6_takeKnownName_44 : decode cX6_takeKnownName 44 = .ok (.if_icmp .ne 11, 3) := by decide +kernel
theorem dX6_takeKnownName_47 : decode cX6_takeKnownName 47 = .ok (.aload_n 0, 1) := by decide +kernel
theorem dX6_takeKnownName_48 : decode cX6_takeKnownName 48 = .ok (.iconst 3, 1) := by decide +kernel
theorem dX6_takeKnownName_49 : decode cX6_takeKnownName 49 = .ok (.invokevirtual 103, 3) := by decide +kernel
theorem dX6_takeKnownName_52 : decode cX6_takeKnownName 52 = .ok (.ifCond .eq 7, 3) := by decide +kernel
theorem dX6_takeKnownName_55 : decode cX6_takeKnownName 55 = .ok (.iconst 1, 1) := by decide +kernel
theorem dX6_takeKnownName_56 : decode cX6_takeKnownName 56 = .ok (.goto 4, 3) := by decide +kernel
theorem dX6_takeKnownName_59 : decode cX6_takeKnownName 59 = .ok (.iconst 0, 1) := by decide +kernel
theorem dX6_takeKnownName_60 : decode cX6_takeKnownName 60 = .ok (.ireturn, 1) := by decide +kernel
theorem dX6_takeNumber_0 : decode cX6_takeNumber 0 = .ok (.aload_n 0, 1) := by decide +kernel
theorem dX6_takeNumber_1 : decode cX6_takeNumber 1 = .ok (.aload_n 1, 1) := by decide +kernel
theorem dX6_takeNumber_2 : decode cX6_takeNumber 2 = .ok (.invokevirtual 77, 3) := by decide +kernel
theorem dX6_takeNumber_5 : decode cX6_takeNumber 5 = .ok (.aload_n 0, 1) := by decide +kernel
theorem dX6_takeNumber_6 : decode cX6_takeNumber 6 = .ok (.iload_n 2, 1) := by decide +kernel
theorem dX6_takeNumber_7 : decode cX6_takeNumber 7 = .ok (.iload_n 3, 1) := by decide +kernel
theorem dX6_takeNumber_8 : decode cX6_takeNumber 8 = .ok (.invokevirtual 161, 3) := by decide +kernel
theorem dX6_takeNumber_11 : decode cX6_takeNumber 11 = .ok (.ireturn, 1) := by decide +kernel
theorem dX6_isNumber_0 : decode cX6_isNumber 0 = .ok (.aload_n 0, 1) := by decide +kernel
theorem dX6_isNumber_1 : decode cX6_isNumber 1 = .ok (.getfield 45, 3) := by decide +kernel
theorem dX6_isNumber_4 : decode cX6_isNumber 4 = .ok (.iconst 1, 1) := by decide +kernel
theorem dX6_isNumber_5 : decode cX6_isNumber 5 = .ok (.if_icmp .eq 9, 3) := by decide +kernel
theorem dX6_isNumber_8 : decode cX6_isNumber 8 = .ok (.aload_n 0, 1) := by decide +kernel
theorem dX6_isNumber_9 : decode cX6_isNumber 9 = .ok (.iconst 1, 1) := by decide +kernel
theorem dX6_isNumber_10 : decode cX6_isNumber 10 = .ok (.invokevirtual 103, 3) := by decide +kernel
theorem dX6_isNumber_13 : decode cX6_isNumber 13 = .ok (.ireturn, 1) := by decide +kernel
theorem dX6_isNumber_14 : decode cX6_isNumber 14 = .ok (.aload_n 0, 1) := by decide +kernel
theorem dX6_isNumber_15 : decode cX6_isNumber 15 = .ok (.getfield 51, 3) := by decide +kernel
theorem dX6_isNumber_18 : decode cX6_isNumber 18 = .ok (.iload_n 1, 1) := by decide +kernel
theorem dX6_isNumber_19 : decode cX6_isNumber 19 = .ok (.if_icmp .lt 11, 3) := by decide +kernel
theorem dX6_isNumber_22 : decode cX6_isNumber 22 = .ok (.aload_n 0, 1) := by decide +kernel
theorem dX6_isNumber_23 : decode cX6_isNumber 23 = .ok (.getfield 51, 3) := by decide +kernel
theorem dX6_isNumber_26 : decode cX6_isNumber 26 = .ok (.iload_n 2, 1) := by decide +kernel
theorem dX6_isNumber_27 : decode cX6_isNumber 27 = .ok (.if_icmp .le 11, 3) := by decide +kernel
theorem dX6_isNumber_30 : decode cX6_isNumber 30 = .ok (.aload_n 0, 1) := by decide +kernel
theorem dX6_isNumber_31 : decode cX6_isNumber 31 = .ok (.iconst 4, 1) := by decide +kernel
theorem dX6_isNumber_32 : decode cX6_isNumber 32 = .ok (.invokevirtual 103, 3) := by decide +kernel
theorem dX6_isNumber_35 : decode cX6_isNumber 35 = .ok (.ifCond .eq 7, 3) := by decide +kernel
theorem dX6_isNumber_38 : decode cX6_isNumber 38 = .ok (.iconst 1, 1) := by decide +kernel
theorem dX6_isNumber_39 : decode cX6_isNumber 39 = .ok (.goto 4, 3) := by decide +kernel
theorem dX6_isNumber_42 : decode cX6_isNumber 42 = .ok (.iconst 0, 1) := by decide +kernel
theorem dX6_isNumber_43 : decode cX6_isNumber 43 = .ok (.ireturn, 1) := by decide +kernel
theorem dX6_takeEnd_0 : decode cX6_takeEnd 0 = .ok (.aload_n 0, 1) := by decide +kernel
theorem dX6_takeEnd_1 : decode cX6_takeEnd 1 = .ok (.aload_n 1, 1) := by decide +kernel
theorem dX6_takeEnd_2 : decode cX6_takeEnd 2 = .ok (.invokevirtual 77, 3) := by decide +kernel
theorem dX6_takeEnd_5 : decode cX6_takeEnd 5 = .ok (.aload_n 0, 1) := by decide +kernel
theorem dX6_takeEnd_6 : decode cX6_takeEnd 6 = .ok (.getfield 45, 3) := by decide +kernel
theorem dX6_takeEnd_9 : decode cX6_takeEnd 9 = .ok (.iconst 2, 1) := by decide +kernel
theorem dX6_takeEnd_10 : decode cX6_takeEnd 10 = .ok (.if_icmp .eq 11, 3) := by decide +kernel
theorem dX6_takeEnd_13 : decode cX6_takeEnd 13 = .ok (.aload_n 0, 1) := by decide +kernel
theorem dX6_takeEnd_14 : decode cX6_takeEnd 14 = .ok (.iconst 1, 1) := by decide +kernel
theorem dX6_takeEnd_15 : decode cX6_takeEnd 15 = .ok (.invokevirtual 103, 3) := by decide +kernel
theorem dX6_takeEnd_18 : decode cX6_takeEnd 18 = .ok (.ifCond .eq 7, 3) := by decide +kernel
theorem dX6_takeEnd_21 : decode cX6_takeEnd 21 = .ok (.iconst 1, 1) := by decide +kernel
theorem dX6_takeEnd_22 : decode cX6_takeEnd 22 = .ok (.goto 4, 3) := by decide +kernel
theorem dX6_takeEnd_25 : decode cX6_takeEnd 25 = .ok (.iconst 0, 1) := by decide +kernel
theorem dX6_takeEnd_26 : decode cX6_takeEnd 26 = .ok (.ireturn, 1) := by decide +kernel
theorem dX6_fail_0 : decode cX6_fail 0 = .ok (.aload_n 0, 1) := by decide +kernel
theorem dX6_fail_1 : decode cX6_fail 1 = .ok (.bipush (-2), 2) := by decide +kernel
theorem dX6_fail_3 : decode cX6_fail 3 = .ok (.bipush 8, 2) := by decide +kernel
theorem dX6_fail_5 : decode cX6_fail 5 = .ok (.aload_n 0, 1) := by decide +kernel
theorem dX6_fail_6 : decode cX6_fail 6 = .ok (.getfield 48, 3) := by decide +kernel
theorem dX6_fail_9 : decode cX6_fail 9 = .ok (.imul, 1) := by decide +kernel
theorem dX6_fail_10 : decode cX6_fail 10 = .ok (.iload_n 1, 1) := by decide +kernel
theorem dX6_fail_11 : decode cX6_fail 11 = .ok (.iadd, 1) := by decide +kernel
theorem dX6_fail_12 : decode cX6_fail 12 = .ok (.isub, 1) := by decide +kernel
theorem dX6_fail_13 : decode cX6_fail 13 = .ok (.putfield 54, 3) := by decide +kernel
theorem dX6_fail_16 : decode cX6_fail 16 = .ok (.iconst 0, 1) := by decide +kernel
theorem dX6_fail_17 : decode cX6_fail 17 = .ok (.ireturn, 1) := by decide +kernel
theorem dX6_keyword_0 : decode cX6_keyword 0 = .ok (.aload_n 0, 1) := by decide +kernel
theorem dX6_keyword_1 : decode cX6_keyword 1 = .ok (.getfield 45, 3) := by decide +kernel
theorem dX6_keyword_4 : decode cX6_keyword 4 = .ok (.ifCond .ne 35, 3) := by decide +kernel
theorem dX6_keyword_7 : decode cX6_keyword 7 = .ok (.iconst 0, 1) := by decide +kernel
theorem dX6_keyword_8 : decode cX6_keyword 8 = .ok (.istore_n 1, 1) := by decide +kernel
theorem dX6_keyword_9 : decode cX6_keyword 9 = .ok (.iload_n 1, 1) := by decide +kernel
theorem dX6_keyword_10 : decode cX6_keyword 10 = .ok (.aload_n 0, 1) := by decide +kernel
theorem dX6_keyword_11 : decode cX6_keyword 11 = .ok (.getfield 34, 3) := by decide +kernel
theorem dX6_keyword_14 : decode cX6_keyword 14 = .ok (.arraylength, 1) := by decide +kernel
theorem dX6_keyword_15 : decode cX6_keyword 15 = .ok (.if_icmp .ge 24, 3) := by decide +kernel
theorem dX6_keyword_18 : decode cX6_keyword 18 = .ok (.aload_n 0, 1) := by decide +kernel
theorem dX6_keyword_19 : decode cX6_keyword 19 = .ok (.getfield 34, 3) := by decide +kernel
theorem dX6_keyword_22 : decode cX6_keyword 22 = .ok (.iload_n 1, 1) := by decide +kernel
theorem dX6_keyword_23 : decode cX6_keyword 23 = .ok (.iaload, 1) := by decide +kernel
theorem dX6_keyword_24 : decode cX6_keyword 24 = .ok (.aload_n 0, 1) := by decide +kernel
theorem dX6_keyword_25 : decode cX6_keyword 25 = .ok (.getfield 51, 3) := by decide +kernel
theorem dX6_keyword_28 : decode cX6_keyword 28 = .ok (.if_icmp .ne 5, 3) := by decide +kernel
theorem dX6_keyword_31 : decode cX6_keyword 31 = .ok (.iload_n 1, 1) := by decide +kernel
theorem dX6_keyword_32 : decode cX6_keyword 32 = .ok (.ireturn, 1) := by decide +kernel
theorem dX6_keyword_33 : decode cX6_keyword 33 = .ok (.iinc 1 1, 3) := by decide +kernel
theorem dX6_keyword_36 : decode cX6_keyword 36 = .ok (.goto (-27), 3) := by decide +kernel
theorem dX6_keyword_39 : decode cX6_keyword 39 = .ok (.iconst (-1), 1) := by decide +kernel
theorem dX6_keyword_40 : decode cX6_keyword 40 = .ok (.ireturn, 1) := by decide +kernel
theorem dX6_advance_0 : decode cX6_advance 0 = .ok (.aload_n 0, 1) := by decide +kernel
theorem dX6_advance_1 : decode cX6_advance 1 = .ok (.getfield 38, 3) := by decide +kernel
theorem dX6_advance_4 : decode cX6_advance 4 = .ok (.aload_n 0, 1) := by decide +kernel
theorem dX6_advance_5 : decode cX6_advance 5 = .ok (.getfield 42, 3) := by decide +kernel
theorem dX6_advance_8 : decode cX6_advance 8 = .ok (.if_icmp .ge 38, 3) := by decide +kernel
theorem dX6_advance_11 : decode cX6_advance 11 = .ok (.aload_n 1, 1) := by decide +kernel
theorem dX6_advance_12 : decode cX6_advance 12 = .ok (.aload_n 0, 1) := by decide +kernel
theorem dX6_advance_13 : decode cX6_advance 13 = .ok (.getfield 38, 3) := by decide +kernel
theorem dX6_advance_16 : decode cX6_advance 16 = .ok (.baload, 1) := by decide +kernel
theorem dX6_advance_17 : decode cX6_advance 17 = .ok (.bipush 32, 2) := by decide +kernel
theorem dX6_advance_19 : decode cX6_advance 19 = .ok (.if_icmp .eq 14, 3) := by decide +kernel
theorem dX6_advance_22 : decode cX6_advance 22 = .ok (.aload_n 1, 1) := by decide +kernel
theorem dX6_advance_23 : decode cX6_advance 23 = .ok (.aload_n 0, 1) := by decide +kernel
theorem dX6_advance_24 : decode cX6_advance 24 = .ok (.getfield 38, 3) := by decide +kernel
theorem dX6_advance_27 : decode cX6_advance 27 = .ok (.baload, 1) := by decide +kernel
theorem dX6_advance_28 : decode cX6_advance 28 = .ok (.bipush 10, 2) := by decide +kernel
theorem dX6_advance_30 : decode cX6_advance 30 = .ok (.if_icmp .ne 16, 3) := by decide +kernel
theorem dX6_advance_33 : decode cX6_advance 33 = .ok (.aload_n 0, 1) := by decide +kernel
theorem dX6_advance_34 : decode cX6_advance 34 = .ok (.dup, 1) := by decide +kernel
theorem dX6_advance_35 : decode cX6_advance 35 = .ok (.getfield 38, 3) := by decide +kernel
theorem dX6_advance_38 : decode cX6_advance 38 = .ok (.iconst 1, 1) := by decide +kernel
theorem dX6_advance_39 : decode cX6_advance 39 = .ok (.iadd, 1) := by decide +kernel
theorem dX6_advance_40 : decode cX6_advance 40 = .ok (.putfield 38, 3) := by decide +kernel
theorem dX6_advance_43 : decode cX6_advance 43 = .ok (.goto (-43), 3) := by decide +kernel
theorem dX6_advance_46 : decode cX6_advance 46 = .ok (.aload_n 0, 1) := by decide +kernel
theorem dX6_advance_47 : decode cX6_advance 47 = .ok (.aload_n 0, 1) := by decide +kernel
theorem dX6_advance_48 : decode cX6_advance 48 = .ok (.getfield 38, 3) := by decide +kernel
theorem dX6_advance_51 : decode cX6_advance 51 = .ok (.putfield 48, 3) := by decide +kernel
theorem dX6_advance_54 : decode cX6_advance 54 = .ok (.aload_n 0, 1) := by decide +kernel
theorem dX6_advance_55 : decode cX6_advance 55 = .ok (.iconst 0, 1) := by decide +kernel
theorem dX6_advance_56 : decode cX6_advance 56 = .ok (.putfield 51, 3) := by decide +kernel
theorem dX6_advance_59 : decode cX6_advance 59 = .ok (.aload_n 0, 1) := by decide +kernel
theorem dX6_advance_60 : decode cX6_advance 60 = .ok (.getfield 38, 3) := by decide +kernel
theorem dX6_advance_63 : decode cX6_advance 63 = .ok (.aload_n 0, 1) := by decide +kernel
theorem dX6_advance_64 : decode cX6_advance 64 = .ok (.getfield 42, 3) := by decide +kernel
theorem dX6_advance_67 : decode cX6_advance 67 = .ok (.if_icmp .lt 11, 3) := by decide +kernel
theorem dX6_advance_70 : decode cX6_advance 70 = .ok (.aload_n 0, 1) := by decide +kernel
theorem dX6_advance_71 : decode cX6_advance 71 = .ok (.iconst 3, 1) := by decide +kernel
theorem dX6_advance_72 : decode cX6_advance 72 = .ok (.putfield 45, 3) := by decide +kernel
theorem dX6_advance_75 : decode cX6_advance 75 = .ok (.goto 67, 3) := by decide +kernel
theorem dX6_advance_78 : decode cX6_advance 78 = .ok (.aload_n 1, 1) := by decide +kernel
theorem dX6_advance_79 : decode cX6_advance 79 = .ok (.aload_n 0, 1) := by decide +kernel
theorem dX6_advance_80 : decode cX6_advance 80 = .ok (.getfield 38, 3) := by decide +kernel
theorem dX6_advance_83 : decode cX6_advance 83 = .ok (.baload, 1) := by decide +kernel
theorem dX6_advance_84 : decode cX6_advance 84 = .ok (.bipush 59, 2) := by decide +kernel
theorem dX6_advance_86 : decode cX6_advance 86 = .ok (.if_icmp .ne 21, 3) := by decide +kernel
theorem dX6_advance_89 : decode cX6_advance 89 = .ok (.aload_n 0, 1) := by decide +kernel
theorem dX6_advance_90 : decode cX6_advance 90 = .ok (.iconst 2, 1) := by decide +kernel
theorem dX6_advance_91 : decode cX6_advance 91 = .ok (.putfield 45, 3) := by decide +kernel
theorem dX6_advance_94 : decode cX6_advance 94 = .ok (.aload_n 0, 1) := by decide +kernel
theorem dX6_advance_95 : decode cX6_advance 95 = .ok (.dup, 1) := by decide +kernel
theorem dX6_advance_96 : decode cX6_advance 96 = .ok (.getfield 38, 3) := by decide +kernel
theorem dX6_advance_99 : decode cX6_advance 99 = .ok (.iconst 1, 1) := by decide +kernel
theorem dX6_advance_100 : decode cX6_advance 100 = .ok (.iadd, 1) := by decide +kernel
theorem dX6_advance_101 : decode cX6_advance 101 = .ok (.putfield 38, 3) := by decide +kernel
theorem dX6_advance_104 : decode cX6_advance 104 = .ok (.goto 38, 3) := by decide +kernel
theorem dX6_advance_107 : decode cX6_advance 107 = .ok (.aload_n 1, 1) := by decide +kernel
theorem dX6_advance_108 : decode cX6_advance 108 = .ok (.aload_n 0, 1) := by decide +kernel
theorem dX6_advance_109 : decode cX6_advance 109 = .ok (.getfield 38, 3) := by decide +kernel
theorem dX6_advance_112 : decode cX6_advance 112 = .ok (.baload, 1) := by decide +kernel
theorem dX6_advance_113 : decode cX6_advance 113 = .ok (.bipush 48, 2) := by decide +kernel
theorem dX6_advance_115 : decode cX6_advance 115 = .ok (.if_icmp .lt 22, 3) := by decide +kernel
theorem dX6_advance_118 : decode cX6_advance 118 = .ok (.aload_n 1, 1) := by decide +kernel
theorem dX6_advance_119 : decode cX6_advance 119 = .ok (.aload_n 0, 1) := by decide +kernel
theorem dX6_advance_120 : decode cX6_advance 120 = .ok (.getfield 38, 3) := by decide +kernel
theorem dX6_advance_123 : decode cX6_advance 123 = .ok (.baload, 1) := by decide +kernel
theorem dX6_advance_124 : decode cX6_advance 124 = .ok (.bipush 57, 2) := by decide +kernel
theorem dX6_advance_126 : decode cX6_advance 126 = .ok (.if_icmp .gt 11, 3) := by decide +kernel
theorem dX6_advance_129 : decode cX6_advance 129 = .ok (.aload_n 0, 1) := by decide +kernel
theorem dX6_advance_130 : decode cX6_advance 130 = .ok (.aload_n 1, 1) := by decide +kernel
theorem dX6_advance_131 : decode cX6_advance 131 = .ok (.invokevirtual 238, 3) := by decide +kernel
theorem dX6_advance_134 : decode cX6_advance 134 = .ok (.goto 8, 3) := by decide +kernel
theorem dX6_advance_137 : decode cX6_advance 137 = .ok (.aload_n 0, 1) := by decide +kernel
theorem dX6_advance_138 : decode cX6_advance 138 = .ok (.aload_n 1, 1) := by decide +kernel
theorem dX6_advance_139 : decode cX6_advance 139 = .ok (.invokevirtual 241, 3) := by decide +kernel
theorem dX6_advance_142 : decode cX6_advance 142 = .ok (.return_, 1) := by decide +kernel
theorem dX6_takeDigits_0 : decode cX6_takeDigits 0 = .ok (.aload_n 0, 1) := by decide +kernel
theorem dX6_takeDigits_1 : decode cX6_takeDigits 1 = .ok (.getfield 38, 3) := by decide +kernel
theorem dX6_takeDigits_4 : decode cX6_takeDigits 4 = .ok (.aload_n 0, 1) := by decide +kernel
theorem dX6_takeDigits_5 : decode cX6_takeDigits 5 = .ok (.getfield 42, 3) := by decide +kernel
theorem dX6_takeDigits_8 : decode cX6_takeDigits 8 = .ok (.if_icmp .ge 59, 3) := by decide +kernel
theorem dX6_takeDigits_11 : decode cX6_takeDigits 11 = .ok (.aload_n 1, 1) := by decide +kernel
theorem dX6_takeDigits_12 : decode cX6_takeDigits 12 = .ok (.aload_n 0, 1) := by decide +kernel
theorem dX6_takeDigits_13 : decode cX6_takeDigits 13 = .ok (.getfield 38, 3) := by decide +kernel
theorem dX6_takeDigits_16 : decode cX6_takeDigits 16 = .ok (.baload, 1) := by decide +kernel
theorem dX6_takeDigits_17 : decode cX6_takeDigits 17 = .ok (.bipush 48, 2) := by decide +kernel
theorem dX6_takeDigits_19 : decode cX6_takeDigits 19 = .ok (.if_icmp .lt 48, 3) := by decide +kernel
theorem dX6_takeDigits_22 : decode cX6_takeDigits 22 = .ok (.aload_n 1, 1) := by decide +kernel
theorem dX6_takeDigits_23 : decode cX6_takeDigits 23 = .ok (.aload_n 0, 1) := by decide +kernel
theorem dX6_takeDigits_24 : decode cX6_takeDigits 24 = .ok (.getfield 38, 3) := by decide +kernel
theorem dX6_takeDigits_27 : decode cX6_takeDigits 27 = .ok (.baload, 1) := by decide +kernel
theorem dX6_takeDigits_28 : decode cX6_takeDigits 28 = .ok (.bipush 57, 2) := by decide +kernel
theorem dX6_takeDigits_30 : decode cX6_takeDigits 30 = .ok (.if_icmp .gt 37, 3) := by decide +kernel
theorem dX6_takeDigits_33 : decode cX6_takeDigits 33 = .ok (.aload_n 0, 1) := by decide +kernel
theorem dX6_takeDigits_34 : decode cX6_takeDigits 34 = .ok (.bipush 10, 2) := by decide +kernel
theorem dX6_takeDigits_36 : decode cX6_takeDigits 36 = .ok (.aload_n 0, 1) := by decide +kernel
theorem dX6_takeDigits_37 : decode cX6_takeDigits 37 = .ok (.getfield 51, 3) := by decide +kernel
theorem dX6_takeDigits_40 : decode cX6_takeDigits 40 = .ok (.imul, 1) := by decide +kernel
theorem dX6_takeDigits_41 : decode cX6_takeDigits 41 = .ok (.aload_n 1, 1) := by decide +kernel
theorem dX6_takeDigits_42 : decode cX6_takeDigits 42 = .ok (.aload_n 0, 1) := by decide +kernel
theorem dX6_takeDigits_43 : decode cX6_takeDigits 43 = .ok (.getfield 38, 3) := by decide +kernel
theorem dX6_takeDigits_46 : decode cX6_takeDigits 46 = .ok (.baload, 1) := by decide +kernel
theorem dX6_takeDigits_47 : decode cX6_takeDigits 47 = .ok (.iadd, 1) := by decide +kernel
theorem dX6_takeDigits_48 : decode cX6_takeDigits 48 = .ok (.bipush 48, 2) := by decide +kernel
theorem dX6_takeDigits_50 : decode cX6_takeDigits 50 = .ok (.isub, 1) := by decide +kernel
theorem dX6_takeDigits_51 : decode cX6_takeDigits 51 = .ok (.putfield 51, 3) := by decide +kernel
theorem dX6_takeDigits_54 : decode cX6_takeDigits 54 = .ok (.aload_n 0, 1) := by decide +kernel
theorem dX6_takeDigits_55 : decode cX6_takeDigits 55 = .ok (.dup, 1) := by decide +kernel
theorem dX6_takeDigits_56 : decode cX6_takeDigits 56 = .ok (.getfield 38, 3) := by decide +kernel
theorem dX6_takeDigits_59 : decode cX6_takeDigits 59 = .ok (.iconst 1, 1) := by decide +kernel
theorem dX6_takeDigits_60 : decode cX6_takeDigits 60 = .ok (.iadd, 1) := by decide +kernel
theorem dX6_takeDigits_61 : decode cX6_takeDigits 61 = .ok (.putfield 38, 3) := by decide +kernel
theorem dX6_takeDigits_64 : decode cX6_takeDigits 64 = .ok (.goto (-64), 3) := by decide +kernel
theorem dX6_takeDigits_67 : decode cX6_takeDigits 67 = .ok (.aload_n 0, 1) := by decide +kernel
theorem dX6_takeDigits_68 : decode cX6_takeDigits 68 = .ok (.aload_n 0, 1) := by decide +kernel
theorem dX6_takeDigits_69 : decode cX6_takeDigits 69 = .ok (.getfield 38, 3) := by decide +kernel
theorem dX6_takeDigits_72 : decode cX6_takeDigits 72 = .ok (.aload_n 0, 1) := by decide +kernel
theorem dX6_takeDigits_73 : decode cX6_takeDigits 73 = .ok (.getfield 48, 3) := by decide +kernel
theorem dX6_takeDigits_76 : decode cX6_takeDigits 76 = .ok (.isub, 1) := by decide +kernel
theorem dX6_takeDigits_77 : decode cX6_takeDigits 77 = .ok (.iconst 2, 1) := by decide +kernel
theorem dX6_takeDigits_78 : decode cX6_takeDigits 78 = .ok (.if_icmp .gt 7, 3) := by decide +kernel
theorem dX6_takeDigits_81 : decode cX6_takeDigits 81 = .ok (.iconst 1, 1) := by decide +kernel
theorem dX6_takeDigits_82 : decode cX6_takeDigits 82 = .ok (.goto 4, 3) := by decide +kernel
theorem dX6_takeDigits_85 : decode cX6_takeDigits 85 = .ok (.iconst 4, 1) := by decide +kernel
theorem dX6_takeDigits_86 : decode cX6_takeDigits 86 = .ok (.putfield 45, 3) := by decide +kernel
theorem dX6_takeDigits_89 : decode cX6_takeDigits 89 = .ok (.return_, 1) := by decide +kernel
theorem dX6_takeLetters_0 : decode cX6_takeLetters 0 = .ok (.aload_n 0, 1) := by decide +kernel
theorem dX6_takeLetters_1 : decode cX6_takeLetters 1 = .ok (.getfield 38, 3) := by decide +kernel
theorem dX6_takeLetters_4 : decode cX6_takeLetters 4 = .ok (.aload_n 0, 1) := by decide +kernel
theorem dX6_takeLetters_5 : decode cX6_takeLetters 5 = .ok (.getfield 42, 3) := by decide +kernel
theorem dX6_takeLetters_8 : decode cX6_takeLetters 8 = .ok (.if_icmp .ge 60, 3) := by decide +kernel
theorem dX6_takeLetters_11 : decode cX6_takeLetters 11 = .ok (.aload_n 1, 1) := by decide +kernel
theorem dX6_takeLetters_12 : decode cX6_takeLetters 12 = .ok (.aload_n 0, 1) := by decide +kernel
theorem dX6_takeLetters_13 : decode cX6_takeLetters 13 = .ok (.getfield 38, 3) := by decide +kernel
theorem dX6_takeLetters_16 : decode cX6_takeLetters 16 = .ok (.baload, 1) := by decide +kernel
theorem dX6_takeLetters_17 : decode cX6_takeLetters 17 = .ok (.bipush 97, 2) := by decide +kernel
theorem dX6_takeLetters_19 : decode cX6_takeLetters 19 = .ok (.if_icmp .lt 49, 3) := by decide +kernel
theorem dX6_takeLetters_22 : decode cX6_takeLetters 22 = .ok (.aload_n 1, 1) := by decide +kernel
theorem dX6_takeLetters_23 : decode cX6_takeLetters 23 = .ok (.aload_n 0, 1) := by decide +kernel
theorem dX6_takeLetters_24 : decode cX6_takeLetters 24 = .ok (.getfield 38, 3) := by decide +kernel
theorem dX6_takeLetters_27 : decode cX6_takeLetters 27 = .ok (.baload, 1) := by decide +kernel
theorem dX6_takeLetters_28 : decode cX6_takeLetters 28 = .ok (.bipush 122, 2) := by decide +kernel
theorem dX6_takeLetters_30 : decode cX6_takeLetters 30 = .ok (.if_icmp .gt 38, 3) := by decide +kernel
theorem dX6_takeLetters_33 : decode cX6_takeLetters 33 = .ok (.aload_n 0, 1) := by decide +kernel
theorem dX6_takeLetters_34 : decode cX6_takeLetters 34 = .ok (.aload_n 0, 1) := by decide +kernel
theorem dX6_takeLetters_35 : decode cX6_takeLetters 35 = .ok (.getfield 51, 3) := by decide +kernel
theorem dX6_takeLetters_38 : decode cX6_takeLetters 38 = .ok (.iconst 5, 1) := by decide +kernel
theorem dX6_takeLetters_39 : decode cX6_takeLetters 39 = .ok (.ishl, 1) := by decide +kernel
theorem dX6_takeLetters_40 : decode cX6_takeLetters 40 = .ok (.aload_n 1, 1) := by decide +kernel
theorem dX6_takeLetters_41 : decode cX6_takeLetters 41 = .ok (.aload_n 0, 1) := by decide +kernel
theorem dX6_takeLetters_42 : decode cX6_takeLetters 42 = .ok (.getfield 38, 3) := by decide +kernel
theorem dX6_takeLetters_45 : decode cX6_takeLetters 45 = .ok (.baload, 1) := by decide +kernel
theorem dX6_takeLetters_46 : decode cX6_takeLetters 46 = .ok (.bipush 97, 2) := by decide +kernel
theorem dX6_takeLetters_48 : decode cX6_takeLetters 48 = .ok (.isub, 1) := by decide +kernel
theorem dX6_takeLetters_49 : decode cX6_takeLetters 49 = .ok (.iconst 1, 1) := by decide +kernel
theorem dX6_takeLetters_50 : decode cX6_takeLetters 50 = .ok (.iadd, 1) := by decide +kernel
theorem dX6_takeLetters_51 : decode cX6_takeLetters 51 = .ok (.ior, 1) := by decide +kernel
theorem dX6_takeLetters_52 : decode cX6_takeLetters 52 = .ok (.putfield 51, 3) := by decide +kernel
theorem dX6_takeLetters_55 : decode cX6_takeLetters 55 = .ok (.aload_n 0, 1) := by decide +kernel
theorem dX6_takeLetters_56 : decode cX6_takeLetters 56 = .ok (.dup, 1) := by decide +kernel
theorem dX6_takeLetters_57 : decode cX6_takeLetters 57 = .ok (.getfield 38, 3) := by decide +kernel
theorem dX6_takeLetters_60 : decode cX6_takeLetters 60 = .ok (.iconst 1, 1) := by decide +kernel
theorem dX6_takeLetters_61 : decode cX6_takeLetters 61 = .ok (.iadd, 1) := by decide +kernel
theorem dX6_takeLetters_62 : decode cX6_takeLetters 62 = .ok (.putfield 38, 3) := by decide +kernel
theorem dX6_takeLetters_65 : decode cX6_takeLetters 65 = .ok (.goto (-65), 3) := by decide +kernel
theorem dX6_takeLetters_68 : decode cX6_takeLetters 68 = .ok (.aload_n 0, 1) := by decide +kernel
theorem dX6_takeLetters_69 : decode cX6_takeLetters 69 = .ok (.aload_n 0, 1) := by decide +kernel
theorem dX6_takeLetters_70 : decode cX6_takeLetters 70 = .ok (.getfield 38, 3) := by decide +kernel
theorem dX6_takeLetters_73 : decode cX6_takeLetters 73 = .ok (.aload_n 0, 1) := by decide +kernel
theorem dX6_takeLetters_74 : decode cX6_takeLetters 74 = .ok (.getfield 48, 3) := by decide +kernel
theorem dX6_takeLetters_77 : decode cX6_takeLetters 77 = .ok (.if_icmp .le 21, 3) := by decide +kernel
theorem dX6_takeLetters_80 : decode cX6_takeLetters 80 = .ok (.aload_n 0, 1) := by decide +kernel
theorem dX6_takeLetters_81 : decode cX6_takeLetters 81 = .ok (.getfield 38, 3) := by decide +kernel
theorem dX6_takeLetters_84 : decode cX6_takeLetters 84 = .ok (.aload_n 0, 1) := by decide +kernel
theorem dX6_takeLetters_85 : decode cX6_takeLetters 85 = .ok (.getfield 48, 3) := by decide +kernel
theorem dX6_takeLetters_88 : decode cX6_takeLetters 88 = .ok (.isub, 1) := by decide +kernel
theorem dX6_takeLetters_89 : decode cX6_takeLetters 89 = .ok (.bipush 6, 2) := by decide +kernel
theorem dX6_takeLetters_91 : decode cX6_takeLetters 91 = .ok (.if_icmp .gt 7, 3) := by decide +kernel
theorem dX6_takeLetters_94 : decode cX6_takeLetters 94 = .ok (.iconst 0, 1) := by decide +kernel
theorem dX6_takeLetters_95 : decode cX6_takeLetters 95 = .ok (.goto 4, 3) := by decide +kernel
theorem dX6_takeLetters_98 : decode cX6_takeLetters 98 = .ok (.iconst 4, 1) := by decide +kernel
theorem dX6_takeLetters_99 : decode cX6_takeLetters 99 = .ok (.putfield 45, 3) := by decide +kernel
theorem dX6_takeLetters_102 : decode cX6_takeLetters 102 = .ok (.return_, 1) := by decide +kernel
theorem dX6_isPrime_0 : decode cX6_isPrime 0 = .ok (.iconst 2, 1) := by decide +kernel
theorem dX6_isPrime_1 : decode cX6_isPrime 1 = .ok (.istore_n 1, 1) := by decide +kernel
theorem dX6_isPrime_2 : decode cX6_isPrime 2 = .ok (.iload_n 1, 1) := by decide +kernel
theorem dX6_isPrime_3 : decode cX6_isPrime 3 = .ok (.iload_n 0, 1) := by decide +kernel
theorem dX6_isPrime_4 : decode cX6_isPrime 4 = .ok (.if_icmp .ge 17, 3) := by decide +kernel
theorem dX6_isPrime_7 : decode cX6_isPrime 7 = .ok (.iload_n 0, 1) := by decide +kernel
theorem dX6_isPrime_8 : decode cX6_isPrime 8 = .ok (.iload_n 1, 1) := by decide +kernel
theorem dX6_isPrime_9 : decode cX6_isPrime 9 = .ok (.irem, 1) := by decide +kernel
theorem dX6_isPrime_10 : decode cX6_isPrime 10 = .ok (.ifCond .ne 5, 3) := by decide +kernel
theorem dX6_isPrime_13 : decode cX6_isPrime 13 = .ok (.iconst 0, 1) := by decide +kernel
theorem dX6_isPrime_14 : decode cX6_isPrime 14 = .ok (.ireturn, 1) := by decide +kernel
theorem dX6_isPrime_15 : decode cX6_isPrime 15 = .ok (.iinc 1 1, 3) := by decide +kernel
theorem dX6_isPrime_18 : decode cX6_isPrime 18 = .ok (.goto (-16), 3) := by decide +kernel
theorem dX6_isPrime_21 : decode cX6_isPrime 21 = .ok (.iload_n 0, 1) := by decide +kernel
theorem dX6_isPrime_22 : decode cX6_isPrime 22 = .ok (.iconst 1, 1) := by decide +kernel
theorem dX6_isPrime_23 : decode cX6_isPrime 23 = .ok (.if_icmp .le 7, 3) := by decide +kernel
theorem dX6_isPrime_26 : decode cX6_isPrime 26 = .ok (.iconst 1, 1) := by decide +kernel
theorem dX6_isPrime_27 : decode cX6_isPrime 27 = .ok (.goto 4, 3) := by decide +kernel
theorem dX6_isPrime_30 : decode cX6_isPrime 30 = .ok (.iconst 0, 1) := by decide +kernel
theorem dX6_isPrime_31 : decode cX6_isPrime 31 = .ok (.ireturn, 1) := by decide +kernel
theorem dX7_init_0 : decode cX7_init 0 = .ok (.aload_n 0, 1) := by decide +kernel
theorem dX7_init_1 : decode cX7_init 1 = .ok (.invokespecial 3, 3) := by decide +kernel
theorem dX7_init_4 : decode cX7_init 4 = .ok (.aload_n 0, 1) := by decide +kernel
theorem dX7_init_5 : decode cX7_init 5 = .ok (.iconst 0, 1) := by decide +kernel
theorem dX7_init_6 : decode cX7_init 6 = .ok (.putfield 9, 3) := by decide +kernel
theorem dX7_init_9 : decode cX7_init 9 = .ok (.aload_n 0, 1) := by decide +kernel
theorem dX7_init_10 : decode cX7_init 10 = .ok (.bipush 16, 2) := by decide +kernel
theorem dX7_init_12 : decode cX7_init 12 = .ok (.newarray .int, 2) := by decide +kernel
theorem dX7_init_14 : decode cX7_init 14 = .ok (.putfield 15, 3) := by decide +kernel
theorem dX7_init_17 : decode cX7_init 17 = .ok (.return_, 1) := by decide +kernel
theorem dX7_size_0 : decode cX7_size 0 = .ok (.iconst 1, 1) := by decide +kernel
theorem dX7_size_1 : decode cX7_size 1 = .ok (.aload_n 0, 1) := by decide +kernel
theorem dX7_size_2 : decode cX7_size 2 = .ok (.getfield 9, 3) := by decide +kernel
theorem dX7_size_5 : decode cX7_size 5 = .ok (.ishl, 1) := by decide +kernel
theorem dX7_size_6 : decode cX7_size 6 = .ok (.ireturn, 1) := by decide +kernel
theorem dX7_hasIndex_0 : decode cX7_hasIndex 0 = .ok (.iload_n 1, 1) := by decide +kernel
theorem dX7_hasIndex_1 : decode cX7_hasIndex 1 = .ok (.ifCond .lt 15, 3) := by decide +kernel
theorem dX7_hasIndex_4 : decode cX7_hasIndex 4 = .ok (.iload_n 1, 1) := by decide +kernel
theorem dX7_hasIndex_5 : decode cX7_hasIndex 5 = .ok (.aload_n 0, 1) := by decide +kernel
theorem dX7_hasIndex_6 : decode cX7_hasIndex 6 = .ok (.invokevirtual 19, 3) := by decide +kernel
theorem dX7_hasIndex_9 : decode cX7_hasIndex 9 = .ok (.if_icmp .ge 7, 3) := by decide +kernel
theorem dX7_hasIndex_12 : decode cX7_hasIndex 12 = .ok (.iconst 1, 1) := by decide +kernel
theorem dX7_hasIndex_13 : decode cX7_hasIndex 13 = .ok (.goto 4, 3) := by decide +kernel
theorem dX7_hasIndex_16 : decode cX7_hasIndex 16 = .ok (.iconst 0, 1) := by decide +kernel
theorem dX7_hasIndex_17 : decode cX7_hasIndex 17 = .ok (.ireturn, 1) := by decide +kernel
theorem dX7_copyFrom_0 : decode cX7_copyFrom 0 = .ok (.aload_n 0, 1) := by decide +kernel
theorem dX7_copyFrom_1 : decode cX7_copyFrom 1 = .ok (.aload_n 1, 1) := by decide +kernel
theorem dX7_copyFrom_2 : decode cX7_copyFrom 2 = .ok (.getfield 9, 3) := by decide +kernel
theorem dX7_copyFrom_5 : decode cX7_copyFrom 5 = .ok (.putfield 9, 3) := by decide +kernel
theorem dX7_copyFrom_8 : decode cX7_copyFrom 8 = .ok (.aload_n 1, 1) := by decide +kernel
theorem dX7_copyFrom_9 : decode cX7_copyFrom 9 = .ok (.getfield 15, 3) := by decide +kernel
theorem dX7_copyFrom_12 : decode cX7_copyFrom 12 = .ok (.iconst 0, 1) := by decide +kernel
theorem dX7_copyFrom_13 : decode cX7_copyFrom 13 = .ok (.aload_n 0, 1) := by decide +kernel
theorem dX7_copyFrom_14 : decode cX7_copyFrom 14 = .ok (.getfield 15, 3) := by decide +kernel
theorem dX7_copyFrom_17 : decode cX7_copyFrom 17 = .ok (.iconst 0, 1) := by decide +kernel
theorem dX7_copyFrom_18 : decode cX7_copyFrom 18 = .ok (.bipush 16, 2) := by decide +kernel
theorem dX7_copyFrom_20 : decode cX7_copyFrom 20 = .ok (.invokestatic 23, 3) := by decide +kernel
theorem dX7_copyFrom_23 : decode cX7_copyFrom 23 = .ok (.return_, 1) := by decide +kernel
theorem dX7_parityKind_0 : decode cX7_parityKind 0 = .ok (.iconst 0, 1) := by decide +kernel
theorem dX7_parityKind_1 : decode cX7_parityKind 1 = .ok (.istore_n 1, 1) := by decide +kernel
theorem dX7_parityKind_2 : decode cX7_parityKind 2 = .ok (.iconst 0, 1) := by decide +kernel
theorem dX7_parityKind_3 : decode cX7_parityKind 3 = .ok (.istore_n 2, 1) := by decide +kernel
theorem dX7_parityKind_4 : decode cX7_parityKind 4 = .ok (.iconst 0, 1) := by decide +kernel
theorem dX7_parityKind_5 : decode cX7_parityKind 5 = .ok (.istore_n 3, 1) := by decide +kernel
theorem dX7_parityKind_6 : decode cX7_parityKind 6 = .ok (.iload_n 3, 1) := by decide +kernel
theorem dX7_parityKind_7 : decode cX7_parityKind 7 = .ok (.aload_n 0, 1) := by decide +kernel
theorem dX7_parityKind_8 : decode cX7_parityKind 8 = .ok (.invokevirtual 19, 3) := by decide +kernel
theorem dX7_parityKind_11 : decode cX7_parityKind 11 = .ok (.if_icmp .ge 64, 3) := by decide +kernel
theorem dX7_parityKind_14 : decode cX7_parityKind 14 = .ok (.aload_n 0, 1) := by decide +kernel
theorem dX7_parityKind_15 : decode cX7_parityKind 15 = .ok (.getfield 15, 3) := by decide +kernel
theorem dX7_parityKind_18 : decode cX7_parityKind 18 = .ok (.iload_n 3, 1) := by decide +kernel
theorem dX7_parityKind_19 : decode cX7_parityKind 19 = .ok (.iaload, 1) := by decide +kernel
theorem dX7_parityKind_20 : decode cX7_parityKind 20 = .ok (.ifCond .eq 49, 3) := by decide +kernel
theorem dX7_parityKind_23 : decode cX7_parityKind 23 = .ok (.iload_n 3, 1) := by decide +kernel
theorem dX7_parityKind_24 : decode cX7_parityKind 24 = .ok (.invokestatic 29, 3) := by decide +kernel
theorem dX7_parityKind_27 : decode cX7_parityKind 27 = .ok (.iconst 2, 1) := by decide +kernel
theorem dX7_parityKind_28 : decode cX7_parityKind 28 = .ok (.irem, 1) := by decide +kernel
theorem dX7_parityKind_29 : decode cX7_parityKind 29 = .ok (.ifCond .ne 7, 3) := by decide +kernel
theorem dX7_parityKind_32 : decode cX7_parityKind 32 = .ok (.iconst 1, 1) := by decide +kernel
theorem dX7_parityKind_33 : decode cX7_parityKind 33 = .ok (.goto 4, 3) := by decide +kernel
theorem dX7_parityKind_36 : decode cX7_parityKind 36 = .ok (.iconst 0, 1) := by decide +kernel
theorem dX7_parityKind_37 : decode cX7_parityKind 37 = .ok (.istore 4, 2) := by decide +kernel
theorem dX7_parityKind_39 : decode cX7_parityKind 39 = .ok (.iload_n 1, 1) := by decide +kernel
theorem dX7_parityKind_40 : decode cX7_parityKind 40 = .ok (.ifCond .ne 8, 3) := by decide +kernel
theorem dX7_parityKind_43 : decode cX7_parityKind 43 = .ok (.iload 4, 2) := by decide +kernel
theorem dX7_parityKind_45 : decode cX7_parityKind 45 = .ok (.ifCond .eq 7, 3) := by decide +kernel
theorem dX7_parityKind_48 : decode cX7_parityKind 48 = .ok (.iconst 1, 1) := by decide +kernel
theorem dX7_parityKind_49 : decode cX7_parityKind 49 = .ok (.goto 4, 3) := by decide +kernel
theorem dX7_parityKind_52 : decode cX7_parityKind 52 = .ok (.iconst 0, 1) := by decide +kernel
theorem dX7_parityKind_53 : decode cX7_parityKind 53 = .ok (.istore_n 1, 1) := by decide +kernel
theorem dX7_parityKind_54 : decode cX7_parityKind 54 = .ok (.iload_n 2, 1) := by decide +kernel
theorem dX7_parityKind_55 : decode cX7_parityKind 55 = .ok (.ifCond .ne 8, 3) := by decide +kernel
theorem dX7_parityKind_58 : decode cX7_parityKind 58 = .ok (.iload 4, 2) := by decide +kernel
theorem dX7_parityKind_60 : decode cX7_parityKind 60 = .ok (.ifCond .ne 7, 3) := by decide +kernel
theorem dX7_parityKind_63 : decode cX7_parityKind 63 = .ok (.iconst 1, 1) := by decide +kernel
theorem dX7_parityKind_64 : decode cX7_parityKind 64 = .ok (.goto 4, 3) := by decide +kernel
theorem dX7_parityKind_67 : decode cX7_parityKind 67 = .ok (.iconst 0, 1) := by decide +kernel
theorem dX7_parityKind_68 : decode cX7_parityKind 68 = .ok (.istore_n 2, 1) := by decide +kernel
theorem dX7_parityKind_69 : decode cX7_parityKind 69 = .ok (.iinc 3 1, 3) := by decide +kernel
theorem dX7_parityKind_72 : decode cX7_parityKind 72 = .ok (.goto (-66), 3) := by decide +kernel
theorem dX7_parityKind_75 : decode cX7_parityKind 75 = .ok (.iload_n 1, 1) := by decide +kernel
theorem dX7_parityKind_76 : decode cX7_parityKind 76 = .ok (.ifCond .eq 13, 3) := by decide +kernel
theorem dX7_parityKind_79 : decode cX7_parityKind 79 = .ok (.iload_n 2, 1) := by decide +kernel
theorem dX7_parityKind_80 : decode cX7_parityKind 80 = .ok (.ifCond .eq 7, 3) := by decide +kernel
theorem dX7_parityKind_83 : decode cX7_parityKind 83 = .ok (.iconst 3, 1) := by decide +kernel
theorem dX7_parityKind_84 : decode cX7_parityKind 84 = .ok (.goto 4, 3) := by decide +kernel
theorem dX7_parityKind_87 : decode cX7_parityKind 87 = .ok (.iconst 0, 1) := by decide +kernel
theorem dX7_parityKind_88 : decode cX7_parityKind 88 = .ok (.ireturn, 1) := by decide +kernel
theorem dX7_parityKind_89 : decode cX7_parityKind 89 = .ok (.iload_n 2, 1) := by decide +kernel
theorem dX7_parityKind_90 : decode cX7_parityKind 90 = .ok (.ifCond .eq 7, 3) := by decide +kernel
theorem dX7_parityKind_93 : decode cX7_parityKind 93 = .ok (.iconst 1, 1) := by decide +kernel
theorem dX7_parityKind_94 : decode cX7_parityKind 94 = .ok (.goto 4, 3) := by decide +kernel
theorem dX7_parityKind_97 : decode cX7_parityKind 97 = .ok (.iconst 2, 1) := by decide +kernel
theorem dX7_parityKind_98 : decode cX7_parityKind 98 = .ok (.ireturn, 1) := by decide +kernel
theorem dX7_rule_0 : decode cX7_rule 0 = .ok (.aload_n 0, 1) := by decide +kernel
theorem dX7_rule_1 : decode cX7_rule 1 = .ok (.getfield 15, 3) := by decide +kernel
theorem dX7_rule_4 : decode cX7_rule 4 = .ok (.astore_n 3, 1) := by decide +kernel
theorem dX7_rule_5 : decode cX7_rule 5 = .ok (.iload_n 1, 1) := by decide +kernel
theorem dX7_rule_6 : decode cX7_rule 6 = .ok (.ifCond .eq 44, 3) := by decide +kernel
theorem dX7_rule_9 : decode cX7_rule 9 = .ok (.aload_n 3, 1) := by decide +kernel
theorem dX7_rule_10 : decode cX7_rule 10 = .ok (.iconst 1, 1) := by decide +kernel
theorem dX7_rule_11 : decode cX7_rule 11 = .ok (.iaload, 1) := by decide +kernel
theorem dX7_rule_12 : decode cX7_rule 12 = .ok (.aload_n 3, 1) := by decide +kernel
theorem dX7_rule_13 : decode cX7_rule 13 = .ok (.bipush 14, 2) := by decide +kernel
theorem dX7_rule_15 : decode cX7_rule 15 = .ok (.iaload, 1) := by decide +kernel
theorem dX7_rule_16 : decode cX7_rule 16 = .ok (.imul, 1) := by decide +kernel
theorem dX7_rule_17 : decode cX7_rule 17 = .ok (.aload_n 3, 1) := by decide +kernel
theorem dX7_rule_18 : decode cX7_rule 18 = .ok (.iconst 2, 1) := by decide +kernel
theorem dX7_rule_19 : decode cX7_rule 19 = .ok (.iaload, 1) := by decide +kernel
theorem dX7_rule_20 : decode cX7_rule 20 = .ok (.aload_n 3, 1) := by decide +kernel
theorem dX7_rule_21 : decode cX7_rule 21 = .ok (.bipush 13, 2) := by decide +kernel
theorem dX7_rule_23 : decode cX7_rule 23 = .ok (.iaload, 1) := by decide +kernel
theorem dX7_rule_24 : decode cX7_rule 24 = .ok (.imul, 1) := by decide +kernel
theorem dX7_rule_25 : decode cX7_rule 25 = .ok (.isub, 1) := by decide +kernel
theorem dX7_rule_26 : decode cX7_rule 26 = .ok (.aload_n 3, 1) := by decide +kernel
theorem dX7_rule_27 : decode cX7_rule 27 = .ok (.iconst 4, 1) := by decide +kernel
theorem dX7_rule_28 : decode cX7_rule 28 = .ok (.iaload, 1) := by decide +kernel
theorem dX7_rule_29 : decode cX7_rule 29 = .ok (.aload_n 3, 1) := by decide +kernel
theorem dX7_rule_30 : decode cX7_rule 30 = .ok (.bipush 11, 2) := by decide +kernel
theorem dX7_rule_32 : decode cX7_rule 32 = .ok (.iaload, 1) := by decide +kernel
theorem dX7_rule_33 : decode cX7_rule 33 = .ok (.imul, 1) := by decide +kernel
theorem dX7_rule_34 : decode cX7_rule 34 = .ok (.iadd, 1) := by decide +kernel
theorem dX7_rule_35 : decode cX7_rule 35 = .ok (.aload_n 3, 1) := by decide +kernel
theorem dX7_rule_36 : decode cX7_rule 36 = .ok (.bipush 8, 2) := by decide +kernel
theorem dX7_rule_38 : decode cX7_rule 38 = .ok (.iaload, 1) := by decide +kernel
theorem dX7_rule_39 : decode cX7_rule 39 = .ok (.aload_n 3, 1) := by decide +kernel
theorem dX7_rule_40 : decode cX7_rule 40 = .ok (.bipush 7, 2) := by decide +kernel
theorem dX7_rule_42 : decode cX7_rule 42 = .ok (.iaload, 1) := by decide +kernel
theorem dX7_rule_43 : decode cX7_rule 43 = .ok (.imul, 1) := by decide +kernel
theorem dX7_rule_44 : decode cX7_rule 44 = .ok (.isub, 1) := by decide +kernel
theorem dX7_rule_45 : decode cX7_rule 45 = .ok (.iload_n 2, 1) := by decide +kernel
theorem dX7_rule_46 : decode cX7_rule 46 = .ok (.invokestatic 35, 3) := by decide +kernel
theorem dX7_rule_49 : decode cX7_rule 49 = .ok (.ireturn, 1) := by decide +kernel
theorem dX7_rule_50 : decode cX7_rule 50 = .ok (.aload_n 3, 1) := by decide +kernel
theorem dX7_rule_51 : decode cX7_rule 51 = .ok (.iconst 0, 1) := by decide +kernel
theorem dX7_rule_52 : decode cX7_rule 52 = .ok (.iaload, 1) := by decide +kernel
theorem dX7_rule_53 : decode cX7_rule 53 = .ok (.aload_n 3, 1) := by decide +kernel
theorem dX7_rule_54 : decode cX7_rule 54 = .ok (.bipush 15, 2) := by decide +kernel
theorem dX7_rule_56 : decode cX7_rule 56 = .ok (.iaload, 1) := by decide +kernel
theorem dX7_rule_57 : decode cX7_rule 57 = .ok (.imul, 1) := by decide +kernel
theorem dX7_rule_58 : decode cX7_rule 58 = .ok (.aload_n 3, 1) := by decide +kernel
theorem dX7_rule_59 : decode cX7_rule 59 = .ok (.iconst 3, 1) := by decide +kernel
theorem dX7_rule_60 : decode cX7_rule 60 = .ok (.iaload, 1) := by decide +kernel
theorem dX7_rule_61 : decode cX7_rule 61 = .ok (.aload_n 3, 1) := by decide +kernel
theorem dX7_rule_62 : decode cX7_rule 62 = .ok (.bipush 12, 2) := by decide +kernel
theorem dX7_rule_64 : decode cX7_rule 64 = .ok (.iaload, 1) := by decide +kernel
theorem dX7_rule_65 : decode cX7_rule 65 = .ok (.imul, 1) := by decide +kernel
theorem dX7_rule_66 : decode cX7_rule 66 = .ok (.isub, 1) := by decide +kernel
theorem dX7_rule_67 : decode cX7_rule 67 = .ok (.aload_n 3, 1) := by decide +kernel
theorem dX7_rule_68 : decode cX7_rule 68 = .ok (.iconst 5, 1) := by decide +kernel
theorem dX7_rule_69 : decode cX7_rule 69 = .ok (.iaload, 1) := by decide +kernel
theorem dX7_rule_70 : decode cX7_rule 70 = .ok (.aload_n 3, 1) := by decide +kernel
theorem dX7_rule_71 : decode cX7_rule 71 = .ok (.bipush 10, 2) := by decide +kernel
theorem dX7_rule_73 : decode cX7_rule 73 = .ok (.iaload, 1) := by decide +kernel
theorem dX7_rule_74 : decode cX7_rule 74 = .ok (.imul, 1) := by decide +kernel
theorem dX7_rule_75 : decode cX7_rule 75 = .ok (.iadd, 1) := by decide +kernel
theorem dX7_rule_76 : decode cX7_rule 76 = .ok (.aload_n 3, 1) := by decide +kernel
theorem dX7_rule_77 : decode cX7_rule 77 = .ok (.bipush 6, 2) := by decide +kernel
theorem dX7_rule_79 : decode cX7_rule 79 = .ok (.iaload, 1) := by decide +kernel
theorem dX7_rule_80 : decode cX7_rule 80 = .ok (.aload_n 3, 1) := by decide +kernel
theorem dX7_rule_81 : decode cX7_rule 81 = .ok (.bipush 9, 2) := by decide +kernel
theorem dX7_rule_83 : decode cX7_rule 83 = .ok (.iaload, 1) := by decide +kernel
theorem dX7_rule_84 : decode cX7_rule 84 = .ok (.imul, 1) := by decide +kernel
theorem dX7_rule_85 : decode cX7_rule 85 = .ok (.isub, 1) := by decide +kernel
theorem dX7_rule_86 : decode cX7_rule 86 = .ok (.iload_n 2, 1) := by decide +kernel
theorem dX7_rule_87 : decode cX7_rule 87 = .ok (.invokestatic 35, 3) := by decide +kernel
theorem dX7_rule_90 : decode cX7_rule 90 = .ok (.ireturn, 1) := by decide +kernel
theorem dX7_isMade_0 : decode cX7_isMade 0 = .ok (.aload_n 0, 1) := by decide +kernel
theorem dX7_isMade_1 : decode cX7_isMade 1 = .ok (.invokevirtual 39, 3) := by decide +kernel
theorem dX7_isMade_4 : decode cX7_isMade 4 = .ok (.iconst 3, 1) := by decide +kernel
theorem dX7_isMade_5 : decode cX7_isMade 5 = .ok (.if_icmp .ne 5, 3) := by decide +kernel
theorem dX7_isMade_8 : decode cX7_isMade 8 = .ok (.iconst 0, 1) := by decide +kernel
theorem dX7_isMade_9 : decode cX7_isMade 9 = .ok (.ireturn, 1) := by decide +kernel
theorem dX7_isMade_10 : decode cX7_isMade 10 = .ok (.aload_n 0, 1) := by decide +kernel
theorem dX7_isMade_11 : decode cX7_isMade 11 = .ok (.getfield 9, 3) := by decide +kernel
theorem dX7_isMade_14 : decode cX7_isMade 14 = .ok (.iconst 4, 1) := by decide +kernel
theorem dX7_isMade_15 : decode cX7_isMade 15 = .ok (.if_icmp .ne 21, 3) := by decide +kernel
theorem dX7_isMade_18 : decode cX7_isMade 18 = .ok (.aload_n 0, 1) := by decide +kernel
theorem dX7_isMade_19 : decode cX7_isMade 19 = .ok (.iconst 0, 1) := by decide +kernel
theorem dX7_isMade_20 : decode cX7_isMade 20 = .ok (.iload_n 1, 1) := by decide +kernel
theorem dX7_isMade_21 : decode cX7_isMade 21 = .ok (.invokevirtual 42, 3) := by decide +kernel
theorem dX7_isMade_24 : decode cX7_isMade 24 = .ok (.ifCond .ne 16, 3) := by decide +kernel
theorem dX7_isMade_27 : decode cX7_isMade 27 = .ok (.aload_n 0, 1) := by decide +kernel
theorem dX7_isMade_28 : decode cX7_isMade 28 = .ok (.iconst 1, 1) := by decide +kernel
theorem dX7_isMade_29 : decode cX7_isMade 29 = .ok (.iload_n 1, 1) := by decide +kernel
theorem dX7_isMade_30 : decode cX7_isMade 30 = .ok (.invokevirtual 42, 3) := by decide +kernel
theorem dX7_isMade_33 : decode cX7_isMade 33 = .ok (.ifCond .ne 7, 3) := by decide +kernel
theorem dX7_isMade_36 : decode cX7_isMade 36 = .ok (.iconst 1, 1) := by decide +kernel
theorem dX7_isMade_37 : decode cX7_isMade 37 = .ok (.goto 4, 3) := by decide +kernel
theorem dX7_isMade_40 : decode cX7_isMade 40 = .ok (.iconst 0, 1) := by decide +kernel
theorem dX7_isMade_41 : decode cX7_isMade 41 = .ok (.ireturn, 1) := by decide +kernel
theorem dX7_dependsOnBitCount_0 : decode cX7_dependsOnBitCount 0 = .ok (.iconst 0, 1) := by decide +kernel
theorem dX7_dependsOnBitCount_1 : decode cX7_dependsOnBitCount 1 = .ok (.istore_n 1, 1) := by decide +kernel
theorem dX7_dependsOnBitCount_2 : decode cX7_dependsOnBitCount 2 = .ok (.iload_n 1, 1) := by decide +kernel
theorem dX7_dependsOnBitCount_3 : decode cX7_dependsOnBitCount 3 = .ok (.aload_n 0, 1) := by decide +kernel
theorem dX7_dependsOnBitCount_4 : decode cX7_dependsOnBitCount 4 = .ok (.invokevirtual 19, 3) := by decide +kernel
theorem dX7_dependsOnBitCount_7 : decode cX7_dependsOnBitCount 7 = .ok (.if_icmp .ge 35, 3) := by decide +kernel
theorem dX7_dependsOnBitCount_10 : decode cX7_dependsOnBitCount 10 = .ok (.iconst 1, 1) := by decide +kernel
theorem dX7_dependsOnBitCount_11 : decode cX7_dependsOnBitCount 11 = .ok (.iload_n 1, 1) := by decide +kernel
theorem dX7_dependsOnBitCount_12 : decode cX7_dependsOnBitCount 12 = .ok (.invokestatic 29, 3) := by decide +kernel
theorem dX7_dependsOnBitCount_15 : decode cX7_dependsOnBitCount 15 = .ok (.ishl, 1) := by decide +kernel
theorem dX7_dependsOnBitCount_16 : decode cX7_dependsOnBitCount 16 = .ok (.iconst 1, 1) := by decide +kernel
theorem dX7_dependsOnBitCount_17 : decode cX7_dependsOnBitCount 17 = .ok (.isub, 1) := by decide +kernel
theorem dX7_dependsOnBitCount_18 : decode cX7_dependsOnBitCount 18 = .ok (.istore_n 2, 1) := by decide +kernel
theorem dX7_dependsOnBitCount_19 : decode cX7_dependsOnBitCount 19 = .ok (.aload_n 0, 1) := by decide +kernel
theorem dX7_dependsOnBitCount_20 : decode cX7_dependsOnBitCount 20 = .ok (.getfield 15, 3) := by decide +kernel
theorem dX7_dependsOnBitCount_23 : decode cX7_dependsOnBitCount 23 = .ok (.iload_n 1, 1) := by decide +kernel
theorem dX7_dependsOnBitCount_24 : decode cX7_dependsOnBitCount 24 = .ok (.iaload, 1) := by decide +kernel
theorem dX7_dependsOnBitCount_25 : decode cX7_dependsOnBitCount 25 = .ok (.aload_n 0, 1) := by decide +kernel
theorem dX7_dependsOnBitCount_26 : decode cX7_dependsOnBitCount 26 = .ok (.getfield 15, 3) := by decide +kernel
theorem dX7_dependsOnBitCount_29 : decode cX7_dependsOnBitCount 29 = .ok (.iload_n 2, 1) := by decide +kernel
theorem dX7_dependsOnBitCount_30 : decode cX7_dependsOnBitCount 30 = .ok (.iaload, 1) := by decide +kernel
theorem dX7_dependsOnBitCount_31 : decode cX7_dependsOnBitCount 31 = .ok (.if_icmp .eq 5, 3) := by decide +kernel
theorem dX7_dependsOnBitCount_34 : decode cX7_dependsOnBitCount 34 = .ok (.iconst 0, 1) := by decide +kernel
theorem dX7_dependsOnBitCount_35 : decode cX7_dependsOnBitCount 35 = .ok (.ireturn, 1) := by decide +kernel
theorem dX7_dependsOnBitCount_36 : decode cX7_dependsOnBitCount 36 = .ok (.iinc 1 1, 3) := by decide +kernel
theorem dX7_dependsOnBitCount_39 : decode cX7_dependsOnBitCount 39 = .ok (.goto (-37), 3) := by decide +kernel
theorem dX7_dependsOnBitCount_42 : decode cX7_dependsOnBitCount 42 = .ok (.iconst 1, 1) := by decide +kernel
theorem dX7_dependsOnBitCount_43 : decode cX7_dependsOnBitCount 43 = .ok (.ireturn, 1) := by decide +kernel
theorem dX7_factorOver_0 : decode cX7_factorOver 0 = .ok (.aload_n 0, 1) := by decide +kernel
theorem dX7_factorOver_1 : decode cX7_factorOver 1 = .ok (.getfield 9, 3) := by decide +kernel
theorem dX7_factorOver_4 : decode cX7_factorOver 4 = .ok (.aload_n 1, 1) := by decide +kernel
theorem dX7_factorOver_5 : decode cX7_factorOver 5 = .ok (.getfield 9, 3) := by decide +kernel
theorem dX7_factorOver_8 : decode cX7_factorOver 8 = .ok (.if_icmp .eq 5, 3) := by decide +kernel
theorem dX7_factorOver_11 : decode cX7_factorOver 11 = .ok (.iconst 0, 1) := by decide +kernel
theorem dX7_factorOver_12 : decode cX7_factorOver 12 = .ok (.ireturn, 1) := by decide +kernel
theorem dX7_factorOver_13 : decode cX7_factorOver 13 = .ok (.iconst 1, 1) := by decide +kernel
theorem dX7_factorOver_14 : decode cX7_factorOver 14 = .ok (.istore_n 3, 1) := by decide +kernel
theorem dX7_factorOver_15 : decode cX7_factorOver 15 = .ok (.iload_n 3, 1) := by decide +kernel
theorem dX7_factorOver_16 : decode cX7_factorOver 16 = .ok (.iload_n 2, 1) := by decide +kernel
theorem dX7_factorOver_17 : decode cX7_factorOver 17 = .ok (.if_icmp .ge 21, 3) := by decide +kernel
theorem dX7_factorOver_20 : decode cX7_factorOver 20 = .ok (.aload_n 0, 1) := by decide +kernel
theorem dX7_factorOver_21 : decode cX7_factorOver 21 = .ok (.iload_n 3, 1) := by decide +kernel
theorem dX7_factorOver_22 : decode cX7_factorOver 22 = .ok (.aload_n 1, 1) := by decide +kernel
theorem dX7_factorOver_23 : decode cX7_factorOver 23 = .ok (.iload_n 2, 1) := by decide +kernel
theorem dX7_factorOver_24 : decode cX7_factorOver 24 = .ok (.invokevirtual 46, 3) := by decide +kernel
theorem dX7_factorOver_27 : decode cX7_factorOver 27 = .ok (.ifCond .eq 5, 3) := by decide +kernel
theorem dX7_factorOver_30 : decode cX7_factorOver 30 = .ok (.iload_n 3, 1) := by decide +kernel
theorem dX7_factorOver_31 : decode cX7_factorOver 31 = .ok (.ireturn, 1) := by decide +kernel
theorem dX7_factorOver_32 : decode cX7_factorOver 32 = .ok (.iinc 3 1, 3) := by decide +kernel
theorem dX7_factorOver_35 : decode cX7_factorOver 35 = .ok (.goto (-20), 3) := by decide +kernel
theorem dX7_factorOver_38 : decode cX7_factorOver 38 = .ok (.iconst 0, 1) := by decide +kernel
theorem dX7_factorOver_39 : decode cX7_factorOver 39 = .ok (.ireturn, 1) := by decide +kernel
theorem dX7_isTimes_0 : decode cX7_isTimes 0 = .ok (.iconst 0, 1) := by decide +kernel
theorem dX7_isTimes_1 : decode cX7_isTimes 1 = .ok (.istore 4, 2) := by decide +kernel
theorem dX7_isTimes_3 : decode cX7_isTimes 3 = .ok (.iload 4, 2) := by decide +kernel
theorem dX7_isTimes_5 : decode cX7_isTimes 5 = .ok (.aload_n 0, 1) := by decide +kernel
theorem dX7_isTimes_6 : decode cX7_isTimes 6 = .ok (.invokevirtual 19, 3) := by decide +kernel
theorem dX7_isTimes_9 : decode cX7_isTimes 9 = .ok (.if_icmp .ge 34, 3) := by decide +kernel
theorem dX7_isTimes_12 : decode cX7_isTimes 12 = .ok (.aload_n 0, 1) := by decide +kernel
theorem dX7_isTimes_13 : decode cX7_isTimes 13 = .ok (.getfield 15, 3) := by decide +kernel
theorem dX7_isTimes_16 : decode cX7_isTimes 16 = .ok (.iload 4, 2) := by decide +kernel
theorem dX7_isTimes_18 : decode cX7_isTimes 18 = .ok (.iaload, 1) := by decide +kernel
theorem dX7_isTimes_19 : decode cX7_isTimes 19 = .ok (.iload_n 1, 1) := by decide +kernel
theorem dX7_isTimes_20 : decode cX7_isTimes 20 = .ok (.aload_n 2, 1) := by decide +kernel
theorem dX7_isTimes_21 : decode cX7_isTimes 21 = .ok (.getfield 15, 3) := by decide +kernel
theorem dX7_isTimes_24 : decode cX7_isTimes 24 = .ok (.iload 4, 2) := by decide +kernel
theorem dX7_isTimes_26 : decode cX7_isTimes 26 = .ok (.iaload, 1) := by decide +kernel
theorem dX7_isTimes_27 : decode cX7_isTimes 27 = .ok (.imul, 1) := by decide +kernel
theorem dX7_isTimes_28 : decode cX7_isTimes 28 = .ok (.iload_n 3, 1) := by decide +kernel
theorem dX7_isTimes_29 : decode cX7_isTimes 29 = .ok (.invokestatic 35, 3) := by decide +kernel
theorem dX7_isTimes_32 : decode cX7_isTimes 32 = .ok (.if_icmp .eq 5, 3) := by decide +kernel
theorem dX7_isTimes_35 : decode cX7_isTimes 35 = .ok (.iconst 0, 1) := by decide +kernel
theorem dX7_isTimes_36 : decode cX7_isTimes 36 = .ok (.ireturn, 1) := by decide +kernel
theorem dX7_isTimes_37 : decode cX7_isTimes 37 = .ok (.iinc 4 1, 3) := by decide +kernel
theorem dX7_isTimes_40 : decode cX7_isTimes 40 = .ok (.goto (-37), 3) := by decide +kernel
theorem dX7_isTimes_43 : decode cX7_isTimes 43 = .ok (.iconst 1, 1) := by decide +kernel
theorem dX7_isTimes_44 : decode cX7_isTimes 44 = .ok (.ireturn, 1) := by decide +kernel
theorem dX7_changeLeg_0 : decode cX7_changeLeg 0 = .ok (.iconst 1, 1) := by decide +kernel
theorem dX7_changeLeg_1 : decode cX7_changeLeg 1 = .ok (.iload_n 1, 1) := by decide +kernel
theorem dX7_changeLeg_2 : decode cX7_changeLeg 2 = .ok (.ishl, 1) := by decide +kernel
theorem dX7_changeLeg_3 : decode cX7_changeLeg 3 = .ok (.istore 4, 2) := by decide +kernel
theorem dX7_changeLeg_5 : decode cX7_changeLeg 5 = .ok (.iconst 0, 1) := by decide +kernel
theorem dX7_changeLeg_6 : decode cX7_changeLeg 6 = .ok (.istore 5, 2) := by decide +kernel
theorem dX7_changeLeg_8 : decode cX7_changeLeg 8 = .ok (.iload 5, 2) := by decide +kernel
theorem dX7_changeLeg_10 : decode cX7_changeLeg 10 = .ok (.aload_n 0, 1) := by decide +kernel
theorem dX7_changeLeg_11 : decode cX7_changeLeg 11 = .ok (.invokevirtual 19, 3) := by decide +kernel
theorem dX7_changeLeg_14 : decode cX7_changeLeg 14 = .ok (.if_icmp .ge 103, 3) := by decide +kernel
theorem dX7_changeLeg_17 : decode cX7_changeLeg 17 = .ok (.iload 5, 2) := by decide +kernel
theorem dX7_changeLeg_19 : decode cX7_changeLeg 19 = .ok (.iload 4, 2) := by decide +kernel
theorem dX7_changeLeg_21 : decode cX7_changeLeg 21 = .ok (.iand, 1) := by decide +kernel
theorem dX7_changeLeg_22 : decode cX7_changeLeg 22 = .ok (.ifCond .ne 89, 3) := by decide +kernel
theorem dX7_changeLeg_25 : decode cX7_changeLeg 25 = .ok (.iload 5, 2) := by decide +kernel
theorem dX7_changeLeg_27 : decode cX7_changeLeg 27 = .ok (.iload 4, 2) := by decide +kernel
theorem dX7_changeLeg_29 : decode cX7_changeLeg 29 = .ok (.ior, 1) := by decide +kernel
theorem dX7_changeLeg_30 : decode cX7_changeLeg 30 = .ok (.bipush 16, 2) := by decide +kernel
theorem dX7_changeLeg_32 : decode cX7_changeLeg 32 = .ok (.if_icmp .ge 79, 3) := by decide +kernel
theorem dX7_changeLeg_35 : decode cX7_changeLeg 35 = .ok (.aload_n 0, 1) := by decide +kernel
theorem dX7_changeLeg_36 : decode cX7_changeLeg 36 = .ok (.getfield 15, 3) := by decide +kernel
theorem dX7_changeLeg_39 : decode cX7_changeLeg 39 = .ok (.iload 5, 2) := by decide +kernel
theorem dX7_changeLeg_41 : decode cX7_changeLeg 41 = .ok (.iaload, 1) := by decide +kernel
theorem dX7_changeLeg_42 : decode cX7_changeLeg 42 = .ok (.istore 6, 2) := by decide +kernel
theorem dX7_changeLeg_44 : decode cX7_changeLeg 44 = .ok (.aload_n 0, 1) := by decide +kernel
theorem dX7_changeLeg_45 : decode cX7_changeLeg 45 = .ok (.getfield 15, 3) := by decide +kernel
theorem dX7_changeLeg_48 : decode cX7_changeLeg 48 = .ok (.iload 5, 2) := by decide +kernel
theorem dX7_changeLeg_50 : decode cX7_changeLeg 50 = .ok (.iload 4, 2) := by decide +kernel
theorem dX7_changeLeg_52 : decode cX7_changeLeg 52 = .ok (.ior, 1) := by decide +kernel
theorem dX7_changeLeg_53 : decode cX7_changeLeg 53 = .ok (.iaload, 1) := by decide +kernel
theorem dX7_changeLeg_54 : decode cX7_changeLeg 54 = .ok (.istore 7, 2) := by decide +kernel
theorem dX7_changeLeg_56 : decode cX7_changeLeg 56 = .ok (.aload_n 0, 1) := by decide +kernel
theorem dX7_changeLeg_57 : decode cX7_changeLeg 57 = .ok (.getfield 15, 3) := by decide +kernel
theorem dX7_changeLeg_60 : decode cX7_changeLeg 60 = .ok (.iload 5, 2) := by decide +kernel
theorem dX7_changeLeg_62 : decode cX7_changeLeg 62 = .ok (.aload_n 2, 1) := by decide +kernel
theorem dX7_changeLeg_63 : decode cX7_changeLeg 63 = .ok (.getfield 50, 3) := by decide +kernel
theorem dX7_changeLeg_66 : decode cX7_changeLeg 66 = .ok (.iload 6, 2) := by decide +kernel
theorem dX7_changeLeg_68 : decode cX7_changeLeg 68 = .ok (.imul, 1) := by decide +kernel
theorem dX7_changeLeg_69 : decode cX7_changeLeg 69 = .ok (.aload_n 2, 1) := by decide +kernel
theorem dX7_changeLeg_70 : decode cX7_changeLeg 70 = .ok (.getfield 55, 3) := by decide +kernel
theorem dX7_changeLeg_73 : decode cX7_changeLeg 73 = .ok (.iload 7, 2) := by decide +kernel
theorem dX7_changeLeg_75 : decode cX7_changeLeg 75 = .ok (.imul, 1) := by decide +kernel
theorem dX7_changeLeg_76 : decode cX7_changeLeg 76 = .ok (.iadd, 1) := by decide +kernel
theorem dX7_changeLeg_77 : decode cX7_changeLeg 77 = .ok (.iload_n 3, 1) := by decide +kernel
theorem dX7_changeLeg_78 : decode cX7_changeLeg 78 = .ok (.invokestatic 35, 3) := by decide +kernel
theorem dX7_changeLeg_81 : decode cX7_changeLeg 81 = .ok (.iastore, 1) := by decide +kernel
theorem dX7_changeLeg_82 : decode cX7_changeLeg 82 = .ok (.aload_n 0, 1) := by decide +kernel
theorem dX7_changeLeg_83 : decode cX7_changeLeg 83 = .ok (.getfield 15, 3) := by decide +kernel
theorem dX7_changeLeg_86 : decode cX7_changeLeg 86 = .ok (.iload 5, 2) := by decide +kernel
theorem dX7_changeLeg_88 : decode cX7_changeLeg 88 = .ok (.iload 4, 2) := by decide +kernel
theorem dX7_changeLeg_90 : decode cX7_changeLeg 90 = .ok (.ior, 1) := by decide +kernel
theorem dX7_changeLeg_91 : decode cX7_changeLeg 91 = .ok (.aload_n 2, 1) := by decide +kernel
theorem dX7_changeLeg_92 : decode cX7_changeLeg 92 = .ok (.getfield 58, 3) := by decide +kernel
theorem dX7_changeLeg_95 : decode cX7_changeLeg 95 = .ok (.iload 6, 2) := by decide +kernel
theorem dX7_changeLeg_97 : decode cX7_changeLeg 97 = .ok (.imul, 1) := by decide +kernel
theorem dX7_changeLeg_98 : decode cX7_changeLeg 98 = .ok (.aload_n 2, 1) := by decide +kernel
theorem dX7_changeLeg_99 : decode cX7_changeLeg 99 = .ok (.getfield 61, 3) := by decide +kernel
theorem dX7_changeLeg_102 : decode cX7_changeLeg 102 = .ok (.iload 7, 2) := by decide +kernel
theorem dX7_changeLeg_104 : decode cX7_changeLeg 104 = .ok (.imul, 1) := by decide +kernel
theorem dX7_changeLeg_105 : decode cX7_changeLeg 105 = .ok (.iadd, 1) := by decide +kernel
theorem dX7_changeLeg_106 : decode cX7_changeLeg 106 = .ok (.iload_n 3, 1) := by decide +kernel
theorem dX7_changeLeg_107 : decode cX7_changeLeg 107 = .ok (.invokestatic 35, 3) := by decide +kernel
theorem dX7_changeLeg_110 : decode cX7_changeLeg 110 = .ok (.iastore, 1) := by decide +kernel
theorem dX7_changeLeg_111 : decode cX7_changeLeg 111 = .ok (.iinc 5 1, 3) := by decide +kernel
