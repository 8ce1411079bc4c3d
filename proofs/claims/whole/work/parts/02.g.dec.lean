theorem dX8_met_0 : decode cX8_met 0 = .ok (.aload_n 0, 1) := by decide +kernel
theorem dX8_met_1 : decode cX8_met 1 = .ok (.iload_n 1, 1) := by decide +kernel
theorem dX8_met_2 : decode cX8_met 2 = .ok (.putfield 163, 3) := by decide +kernel
theorem dX8_met_5 : decode cX8_met 5 = .ok (.bipush (-10), 2) := by decide +kernel
theorem dX8_met_7 : decode cX8_met 7 = .ok (.iload_n 1, 1) := by decide +kernel
theorem dX8_met_8 : decode cX8_met 8 = .ok (.isub, 1) := by decide +kernel
theorem dX8_met_9 : decode cX8_met 9 = .ok (.ireturn, 1) := by decide +kernel
theorem dX8_isTape_0 : decode cX8_isTape 0 = .ok (.iload_n 0, 1) := by decide +kernel
theorem dX8_isTape_1 : decode cX8_isTape 1 = .ok (.i2l, 1) := by decide +kernel
theorem dX8_isTape_2 : decode cX8_isTape 2 = .ok (.lconst 0, 1) := by decide +kernel
theorem dX8_isTape_3 : decode cX8_isTape 3 = .ok (.ldc2_w 166, 3) := by decide +kernel
theorem dX8_isTape_6 : decode cX8_isTape 6 = .ok (.invokestatic 86, 3) := by decide +kernel
theorem dX8_isTape_9 : decode cX8_isTape 9 = .ok (.ireturn, 1) := by decide +kernel
theorem dX8_tape_0 : decode cX8_tape 0 = .ok (.iload_n 1, 1) := by decide +kernel
theorem dX8_tape_1 : decode cX8_tape 1 = .ok (.invokestatic 168, 3) := by decide +kernel
theorem dX8_tape_4 : decode cX8_tape 4 = .ok (.ifCond .eq 22, 3) := by decide +kernel
theorem dX8_tape_7 : decode cX8_tape 7 = .ok (.iload_n 2, 1) := by decide +kernel
theorem dX8_tape_8 : decode cX8_tape 8 = .ok (.i2l, 1) := by decide +kernel
theorem dX8_tape_9 : decode cX8_tape 9 = .ok (.lconst 0, 1) := by decide +kernel
theorem dX8_tape_10 : decode cX8_tape 10 = .ok (.ldc2_w 82, 3) := by decide +kernel
theorem dX8_tape_13 : decode cX8_tape 13 = .ok (.invokestatic 86, 3) := by decide +kernel
theorem dX8_tape_16 : decode cX8_tape 16 = .ok (.ifCond .eq 10, 3) := by decide +kernel
theorem dX8_tape_19 : decode cX8_tape 19 = .ok (.iload_n 3, 1) := by decide +kernel
theorem dX8_tape_20 : decode cX8_tape 20 = .ok (.sipush 200, 3) := by decide +kernel
theorem dX8_tape_23 : decode cX8_tape 23 = .ok (.if_icmp .le 6, 3) := by decide +kernel
theorem dX8_tape_26 : decode cX8_tape 26 = .ok (.bipush (-2), 2) := by decide +kernel
theorem dX8_tape_28 : decode cX8_tape 28 = .ok (.ireturn, 1) := by decide +kernel
theorem dX8_tape_29 : decode cX8_tape 29 = .ok (.iload_n 3, 1) := by decide +kernel
theorem dX8_tape_30 : decode cX8_tape 30 = .ok (.ifCond .ge 9, 3) := by decide +kernel
theorem dX8_tape_33 : decode cX8_tape 33 = .ok (.aload_n 0, 1) := by decide +kernel
theorem dX8_tape_34 : decode cX8_tape 34 = .ok (.iconst 5, 1) := by decide +kernel
theorem dX8_tape_35 : decode cX8_tape 35 = .ok (.invokevirtual 171, 3) := by decide +kernel
theorem dX8_tape_38 : decode cX8_tape 38 = .ok (.ireturn, 1) := by decide +kernel
theorem dX8_tape_39 : decode cX8_tape 39 = .ok (.aload_n 0, 1) := by decide +kernel
theorem dX8_tape_40 : decode cX8_tape 40 = .ok (.getfield 47, 3) := by decide +kernel
theorem dX8_tape_43 : decode cX8_tape 43 = .ok (.iload_n 1, 1) := by decide +kernel
theorem dX8_tape_44 : decode cX8_tape 44 = .ok (.iload_n 2, 1) := by decide +kernel
theorem dX8_tape_45 : decode cX8_tape 45 = .ok (.iastore, 1) := by decide +kernel
theorem dX8_tape_46 : decode cX8_tape 46 = .ok (.aload_n 0, 1) := by decide +kernel
theorem dX8_tape_47 : decode cX8_tape 47 = .ok (.getfield 50, 3) := by decide +kernel
theorem dX8_tape_50 : decode cX8_tape 50 = .ok (.iload_n 1, 1) := by decide +kernel
theorem dX8_tape_51 : decode cX8_tape 51 = .ok (.iload_n 3, 1) := by decide +kernel
theorem dX8_tape_52 : decode cX8_tape 52 = .ok (.iastore, 1) := by decide +kernel
theorem dX8_tape_53 : decode cX8_tape 53 = .ok (.iconst 0, 1) := by decide +kernel
theorem dX8_tape_54 : decode cX8_tape 54 = .ok (.istore 4, 2) := by decide +kernel
theorem dX8_tape_56 : decode cX8_tape 56 = .ok (.iload 4, 2) := by decide +kernel
theorem dX8_tape_58 : decode cX8_tape 58 = .ok (.iload_n 3, 1) := by decide +kernel
theorem dX8_tape_59 : decode cX8_tape 59 = .ok (.if_icmp .ge 23, 3) := by decide +kernel
theorem dX8_tape_62 : decode cX8_tape 62 = .ok (.aload_n 0, 1) := by decide +kernel
theorem dX8_tape_63 : decode cX8_tape 63 = .ok (.getfield 53, 3) := by decide +kernel
theorem dX8_tape_66 : decode cX8_tape 66 = .ok (.sipush 200, 3) := by decide +kernel
theorem dX8_tape_69 : decode cX8_tape 69 = .ok (.iload_n 1, 1) := by decide +kernel
theorem dX8_tape_70 : decode cX8_tape 70 = .ok (.imul, 1) := by decide +kernel
theorem dX8_tape_71 : decode cX8_tape 71 = .ok (.iload 4, 2) := by decide +kernel
theorem dX8_tape_73 : decode cX8_tape 73 = .ok (.iadd, 1) := by decide +kernel
theorem dX8_tape_74 : decode cX8_tape 74 = .ok (.iconst 0, 1) := by decide +kernel
theorem dX8_tape_75 : decode cX8_tape 75 = .ok (.iastore, 1) := by decide +kernel
theorem dX8_tape_76 : decode cX8_tape 76 = .ok (.iinc 4 1, 3) := by decide +kernel
theorem dX8_tape_79 : decode cX8_tape 79 = .ok (.goto (-23), 3) := by decide +kernel
theorem dX8_tape_82 : decode cX8_tape 82 = .ok (.iload_n 3, 1) := by decide +kernel
theorem dX8_tape_83 : decode cX8_tape 83 = .ok (.ireturn, 1) := by decide +kernel
theorem dX8_lose_0 : decode cX8_lose 0 = .ok (.iload_n 1, 1) := by decide +kernel
theorem dX8_lose_1 : decode cX8_lose 1 = .ok (.invokestatic 168, 3) := by decide +kernel
theorem dX8_lose_4 : decode cX8_lose 4 = .ok (.ifCond .ne 6, 3) := by decide +kernel
theorem dX8_lose_7 : decode cX8_lose 7 = .ok (.bipush (-2), 2) := by decide +kernel
theorem dX8_lose_9 : decode cX8_lose 9 = .ok (.ireturn, 1) := by decide +kernel
theorem dX8_lose_10 : decode cX8_lose 10 = .ok (.aload_n 0, 1) := by decide +kernel
theorem dX8_lose_11 : decode cX8_lose 11 = .ok (.getfield 47, 3) := by decide +kernel
theorem dX8_lose_14 : decode cX8_lose 14 = .ok (.iload_n 1, 1) := by decide +kernel
theorem dX8_lose_15 : decode cX8_lose 15 = .ok (.iaload, 1) := by decide +kernel
theorem dX8_lose_16 : decode cX8_lose 16 = .ok (.ifCond .ge 9, 3) := by decide +kernel
theorem dX8_lose_19 : decode cX8_lose 19 = .ok (.aload_n 0, 1) := by decide +kernel
theorem dX8_lose_20 : decode cX8_lose 20 = .ok (.iconst 1, 1) := by decide +kernel
theorem dX8_lose_21 : decode cX8_lose 21 = .ok (.invokevirtual 171, 3) := by decide +kernel
theorem dX8_lose_24 : decode cX8_lose 24 = .ok (.ireturn, 1) := by decide +kernel
theorem dX8_lose_25 : decode cX8_lose 25 = .ok (.aload_n 0, 1) := by decide +kernel
theorem dX8_lose_26 : decode cX8_lose 26 = .ok (.getfield 47, 3) := by decide +kernel
theorem dX8_lose_29 : decode cX8_lose 29 = .ok (.iload_n 1, 1) := by decide +kernel
theorem dX8_lose_30 : decode cX8_lose 30 = .ok (.iconst (-1), 1) := by decide +kernel
theorem dX8_lose_31 : decode cX8_lose 31 = .ok (.iastore, 1) := by decide +kernel
theorem dX8_lose_32 : decode cX8_lose 32 = .ok (.aload_n 0, 1) := by decide +kernel
theorem dX8_lose_33 : decode cX8_lose 33 = .ok (.getfield 50, 3) := by decide +kernel
theorem dX8_lose_36 : decode cX8_lose 36 = .ok (.iload_n 1, 1) := by decide +kernel
theorem dX8_lose_37 : decode cX8_lose 37 = .ok (.iaload, 1) := by decide +kernel
theorem dX8_lose_38 : decode cX8_lose 38 = .ok (.ireturn, 1) := by decide +kernel
theorem dX8_lacks_0 : decode cX8_lacks 0 = .ok (.aload_n 0, 1) := by decide +kernel
theorem dX8_lacks_1 : decode cX8_lacks 1 = .ok (.getfield 47, 3) := by decide +kernel
theorem dX8_lacks_4 : decode cX8_lacks 4 = .ok (.iload_n 1, 1) := by decide +kernel
theorem dX8_lacks_5 : decode cX8_lacks 5 = .ok (.iaload, 1) := by decide +kernel
theorem dX8_lacks_6 : decode cX8_lacks 6 = .ok (.ifCond .ge 9, 3) := by decide +kernel
theorem dX8_lacks_9 : decode cX8_lacks 9 = .ok (.aload_n 0, 1) := by decide +kernel
theorem dX8_lacks_10 : decode cX8_lacks 10 = .ok (.iconst 1, 1) := by decide +kernel
theorem dX8_lacks_11 : decode cX8_lacks 11 = .ok (.invokevirtual 171, 3) := by decide +kernel
theorem dX8_lacks_14 : decode cX8_lacks 14 = .ok (.ireturn, 1) := by decide +kernel
theorem dX8_lacks_15 : decode cX8_lacks 15 = .ok (.aload_n 0, 1) := by decide +kernel
theorem dX8_lacks_16 : decode cX8_lacks 16 = .ok (.getfield 47, 3) := by decide +kernel
theorem dX8_lacks_19 : decode cX8_lacks 19 = .ok (.iload_n 1, 1) := by decide +kernel
theorem dX8_lacks_20 : decode cX8_lacks 20 = .ok (.iaload, 1) := by decide +kernel
theorem dX8_lacks_21 : decode cX8_lacks 21 = .ok (.iload_n 2, 1) := by decide +kernel
theorem dX8_lacks_22 : decode cX8_lacks 22 = .ok (.if_icmp .eq 9, 3) := by decide +kernel
theorem dX8_lacks_25 : decode cX8_lacks 25 = .ok (.aload_n 0, 1) := by decide +kernel
theorem dX8_lacks_26 : decode cX8_lacks 26 = .ok (.iconst 3, 1) := by decide +kernel
theorem dX8_lacks_27 : decode cX8_lacks 27 = .ok (.invokevirtual 171, 3) := by decide +kernel
theorem dX8_lacks_30 : decode cX8_lacks 30 = .ok (.ireturn, 1) := by decide +kernel
theorem dX8_lacks_31 : decode cX8_lacks 31 = .ok (.iload_n 3, 1) := by decide +kernel
theorem dX8_lacks_32 : decode cX8_lacks 32 = .ok (.i2l, 1) := by decide +kernel
theorem dX8_lacks_33 : decode cX8_lacks 33 = .ok (.lconst 0, 1) := by decide +kernel
theorem dX8_lacks_34 : decode cX8_lacks 34 = .ok (.aload_n 0, 1) := by decide +kernel
theorem dX8_lacks_35 : decode cX8_lacks 35 = .ok (.getfield 50, 3) := by decide +kernel
theorem dX8_lacks_38 : decode cX8_lacks 38 = .ok (.iload_n 1, 1) := by decide +kernel
theorem dX8_lacks_39 : decode cX8_lacks 39 = .ok (.iaload, 1) := by decide +kernel
theorem dX8_lacks_40 : decode cX8_lacks 40 = .ok (.iconst 1, 1) := by decide +kernel
theorem dX8_lacks_41 : decode cX8_lacks 41 = .ok (.isub, 1) := by decide +kernel
theorem dX8_lacks_42 : decode cX8_lacks 42 = .ok (.i2l, 1) := by decide +kernel
theorem dX8_lacks_43 : decode cX8_lacks 43 = .ok (.invokestatic 86, 3) := by decide +kernel
theorem dX8_lacks_46 : decode cX8_lacks 46 = .ok (.ifCond .eq 7, 3) := by decide +kernel
theorem dX8_lacks_49 : decode cX8_lacks 49 = .ok (.iconst 0, 1) := by decide +kernel
theorem dX8_lacks_50 : decode cX8_lacks 50 = .ok (.goto 8, 3) := by decide +kernel
theorem dX8_lacks_53 : decode cX8_lacks 53 = .ok (.aload_n 0, 1) := by decide +kernel
theorem dX8_lacks_54 : decode cX8_lacks 54 = .ok (.iconst 2, 1) := by decide +kernel
theorem dX8_lacks_55 : decode cX8_lacks 55 = .ok (.invokevirtual 171, 3) := by decide +kernel
theorem dX8_lacks_58 : decode cX8_lacks 58 = .ok (.ireturn, 1) := by decide +kernel
theorem dX8_put_0 : decode cX8_put 0 = .ok (.iload_n 1, 1) := by decide +kernel
theorem dX8_put_1 : decode cX8_put 1 = .ok (.invokestatic 168, 3) := by decide +kernel
theorem dX8_put_4 : decode cX8_put 4 = .ok (.ifCond .eq 15, 3) := by decide +kernel
theorem dX8_put_7 : decode cX8_put 7 = .ok (.iload_n 2, 1) := by decide +kernel
theorem dX8_put_8 : decode cX8_put 8 = .ok (.i2l, 1) := by decide +kernel
theorem dX8_put_9 : decode cX8_put 9 = .ok (.lconst 0, 1) := by decide +kernel
theorem dX8_put_10 : decode cX8_put 10 = .ok (.ldc2_w 82, 3) := by decide +kernel
theorem dX8_put_13 : decode cX8_put 13 = .ok (.invokestatic 86, 3) := by decide +kernel
theorem dX8_put_16 : decode cX8_put 16 = .ok (.ifCond .ne 6, 3) := by decide +kernel
theorem dX8_put_19 : decode cX8_put 19 = .ok (.bipush (-2), 2) := by decide +kernel
theorem dX8_put_21 : decode cX8_put 21 = .ok (.ireturn, 1) := by decide +kernel
theorem dX8_put_22 : decode cX8_put 22 = .ok (.aload_n 0, 1) := by decide +kernel
theorem dX8_put_23 : decode cX8_put 23 = .ok (.iload_n 1, 1) := by decide +kernel
theorem dX8_put_24 : decode cX8_put 24 = .ok (.iload_n 2, 1) := by decide +kernel
theorem dX8_put_25 : decode cX8_put 25 = .ok (.iload_n 3, 1) := by decide +kernel
theorem dX8_put_26 : decode cX8_put 26 = .ok (.invokevirtual 174, 3) := by decide +kernel
theorem dX8_put_29 : decode cX8_put 29 = .ok (.istore 5, 2) := by decide +kernel
theorem dX8_put_31 : decode cX8_put 31 = .ok (.iload 5, 2) := by decide +kernel
theorem dX8_put_33 : decode cX8_put 33 = .ok (.ifCond .eq 6, 3) := by decide +kernel
theorem dX8_put_36 : decode cX8_put 36 = .ok (.iload 5, 2) := by decide +kernel
theorem dX8_put_38 : decode cX8_put 38 = .ok (.ireturn, 1) := by decide +kernel
theorem dX8_put_39 : decode cX8_put 39 = .ok (.aload_n 0, 1) := by decide +kernel
theorem dX8_put_40 : decode cX8_put 40 = .ok (.getfield 53, 3) := by decide +kernel
theorem dX8_put_43 : decode cX8_put 43 = .ok (.sipush 200, 3) := by decide +kernel
theorem dX8_put_46 : decode cX8_put 46 = .ok (.iload_n 1, 1) := by decide +kernel
theorem dX8_put_47 : decode cX8_put 47 = .ok (.imul, 1) := by decide +kernel
theorem dX8_put_48 : decode cX8_put 48 = .ok (.iload_n 3, 1) := by decide +kernel
theorem dX8_put_49 : decode cX8_put 49 = .ok (.iadd, 1) := by decide +kernel
theorem dX8_put_50 : decode cX8_put 50 = .ok (.iload_n 2, 1) := by decide +kernel
theorem dX8_put_51 : decode cX8_put 51 = .ok (.ifCond .ne 9, 3) := by decide +kernel
theorem dX8_put_54 : decode cX8_put 54 = .ok (.iload 4, 2) := by decide +kernel
theorem dX8_put_56 : decode cX8_put 56 = .ok (.i2b, 1) := by decide +kernel
theorem dX8_put_57 : decode cX8_put 57 = .ok (.goto 19, 3) := by decide +kernel
theorem dX8_put_60 : decode cX8_put 60 = .ok (.iload_n 2, 1) := by decide +kernel
theorem dX8_put_61 : decode cX8_put 61 = .ok (.iconst 1, 1) := by decide +kernel
theorem dX8_put_62 : decode cX8_put 62 = .ok (.if_icmp .ne 11, 3) := by decide +kernel
theorem dX8_put_65 : decode cX8_put 65 = .ok (.iload 4, 2) := by decide +kernel
theorem dX8_put_67 : decode cX8_put 67 = .ok (.ldc 178, 2) := by decide +kernel
theorem dX8_put_69 : decode cX8_put 69 = .ok (.iand, 1) := by decide +kernel
theorem dX8_put_70 : decode cX8_put 70 = .ok (.goto 6, 3) := by decide +kernel
theorem dX8_put_73 : decode cX8_put 73 = .ok (.iload 4, 2) := by decide +kernel
theorem dX8_put_75 : decode cX8_put 75 = .ok (.i2s, 1) := by decide +kernel
theorem dX8_put_76 : decode cX8_put 76 = .ok (.iastore, 1) := by decide +kernel
theorem dX8_put_77 : decode cX8_put 77 = .ok (.iconst 1, 1) := by decide +kernel
theorem dX8_put_78 : decode cX8_put 78 = .ok (.ireturn, 1) := by decide +kernel
theorem dX8_get_0 : decode cX8_get 0 = .ok (.iload_n 1, 1) := by decide +kernel
theorem dX8_get_1 : decode cX8_get 1 = .ok (.invokestatic 168, 3) := by decide +kernel
theorem dX8_get_4 : decode cX8_get 4 = .ok (.ifCond .eq 25, 3) := by decide +kernel
theorem dX8_get_7 : decode cX8_get 7 = .ok (.iload_n 2, 1) := by decide +kernel
theorem dX8_get_8 : decode cX8_get 8 = .ok (.i2l, 1) := by decide +kernel
theorem dX8_get_9 : decode cX8_get 9 = .ok (.lconst 0, 1) := by decide +kernel
theorem dX8_get_10 : decode cX8_get 10 = .ok (.ldc2_w 82, 3) := by decide +kernel
theorem dX8_get_13 : decode cX8_get 13 = .ok (.invokestatic 86, 3) := by decide +kernel
theorem dX8_get_16 : decode cX8_get 16 = .ok (.ifCond .eq 13, 3) := by decide +kernel
theorem dX8_get_19 : decode cX8_get 19 = .ok (.aload_n 0, 1) := by decide +kernel
theorem dX8_get_20 : decode cX8_get 20 = .ok (.iload_n 1, 1) := by decide +kernel
theorem dX8_get_21 : decode cX8_get 21 = .ok (.iload_n 2, 1) := by decide +kernel
theorem dX8_get_22 : decode cX8_get 22 = .ok (.iload_n 3, 1) := by decide +kernel
theorem dX8_get_23 : decode cX8_get 23 = .ok (.invokevirtual 174, 3) := by decide +kernel
theorem dX8_get_26 : decode cX8_get 26 = .ok (.ifCond .eq 6, 3) := by decide +kernel
theorem dX8_get_29 : decode cX8_get 29 = .ok (.ldc 179, 2) := by decide +kernel
theorem dX8_get_31 : decode cX8_get 31 = .ok (.ireturn, 1) := by decide +kernel
theorem dX8_get_32 : decode cX8_get 32 = .ok (.aload_n 0, 1) := by decide +kernel
theorem dX8_get_33 : decode cX8_get 33 = .ok (.getfield 53, 3) := by decide +kernel
theorem dX8_get_36 : decode cX8_get 36 = .ok (.sipush 200, 3) := by decide +kernel
theorem dX8_get_39 : decode cX8_get 39 = .ok (.iload_n 1, 1) := by decide +kernel
theorem dX8_get_40 : decode cX8_get 40 = .ok (.imul, 1) := by decide +kernel
theorem dX8_get_41 : decode cX8_get 41 = .ok (.iload_n 3, 1) := by decide +kernel
theorem dX8_get_42 : decode cX8_get 42 = .ok (.iadd, 1) := by decide +kernel
theorem dX8_get_43 : decode cX8_get 43 = .ok (.iaload, 1) := by decide +kernel
theorem dX8_get_44 : decode cX8_get 44 = .ok (.ireturn, 1) := by decide +kernel
theorem dX8_isWithin_0 : decode cX8_isWithin 0 = .ok (.iload_n 2, 1) := by decide +kernel
theorem dX8_isWithin_1 : decode cX8_isWithin 1 = .ok (.ifCond .lt 27, 3) := by decide +kernel
theorem dX8_isWithin_4 : decode cX8_isWithin 4 = .ok (.iload_n 3, 1) := by decide +kernel
theorem dX8_isWithin_5 : decode cX8_isWithin 5 = .ok (.ifCond .lt 23, 3) := by decide +kernel
theorem dX8_isWithin_8 : decode cX8_isWithin 8 = .ok (.iload_n 2, 1) := by decide +kernel
theorem dX8_isWithin_9 : decode cX8_isWithin 9 = .ok (.i2l, 1) := by decide +kernel
theorem dX8_isWithin_10 : decode cX8_isWithin 10 = .ok (.iload_n 3, 1) := by decide +kernel
theorem dX8_isWithin_11 : decode cX8_isWithin 11 = .ok (.i2l, 1) := by decide +kernel
theorem dX8_isWithin_12 : decode cX8_isWithin 12 = .ok (.ladd, 1) := by decide +kernel
theorem dX8_isWithin_13 : decode cX8_isWithin 13 = .ok (.aload_n 0, 1) := by decide +kernel
theorem dX8_isWithin_14 : decode cX8_isWithin 14 = .ok (.getfield 50, 3) := by decide +kernel
theorem dX8_isWithin_17 : decode cX8_isWithin 17 = .ok (.iload_n 1, 1) := by decide +kernel
theorem dX8_isWithin_18 : decode cX8_isWithin 18 = .ok (.iaload, 1) := by decide +kernel
theorem dX8_isWithin_19 : decode cX8_isWithin 19 = .ok (.i2l, 1) := by decide +kernel
theorem dX8_isWithin_20 : decode cX8_isWithin 20 = .ok (.lcmp, 1) := by decide +kernel
theorem dX8_isWithin_21 : decode cX8_isWithin 21 = .ok (.ifCond .gt 7, 3) := by decide +kernel
theorem dX8_isWithin_24 : decode cX8_isWithin 24 = .ok (.iconst 1, 1) := by decide +kernel
theorem dX8_isWithin_25 : decode cX8_isWithin 25 = .ok (.goto 4, 3) := by decide +kernel
theorem dX8_isWithin_28 : decode cX8_isWithin 28 = .ok (.iconst 0, 1) := by decide +kernel
theorem dX8_isWithin_29 : decode cX8_isWithin 29 = .ok (.ireturn, 1) := by decide +kernel
theorem dX8_copy_0 : decode cX8_copy 0 = .ok (.iload_n 1, 1) := by decide +kernel
theorem dX8_copy_1 : decode cX8_copy 1 = .ok (.invokestatic 168, 3) := by decide +kernel
theorem dX8_copy_4 : decode cX8_copy 4 = .ok (.ifCond .eq 10, 3) := by decide +kernel
theorem dX8_copy_7 : decode cX8_copy 7 = .ok (.iload_n 3, 1) := by decide +kernel
theorem dX8_copy_8 : decode cX8_copy 8 = .ok (.invokestatic 168, 3) := by decide +kernel
theorem dX8_copy_11 : decode cX8_copy 11 = .ok (.ifCond .ne 6, 3) := by decide +kernel
theorem dX8_copy_14 : decode cX8_copy 14 = .ok (.bipush (-2), 2) := by decide +kernel
theorem dX8_copy_16 : decode cX8_copy 16 = .ok (.ireturn, 1) := by decide +kernel
theorem dX8_copy_17 : decode cX8_copy 17 = .ok (.aload_n 0, 1) := by decide +kernel
theorem dX8_copy_18 : decode cX8_copy 18 = .ok (.getfield 47, 3) := by decide +kernel
theorem dX8_copy_21 : decode cX8_copy 21 = .ok (.iload_n 1, 1) := by decide +kernel
theorem dX8_copy_22 : decode cX8_copy 22 = .ok (.iaload, 1) := by decide +kernel
theorem dX8_copy_23 : decode cX8_copy 23 = .ok (.ifCond .lt 12, 3) := by decide +kernel
theorem dX8_copy_26 : decode cX8_copy 26 = .ok (.aload_n 0, 1) := by decide +kernel
theorem dX8_copy_27 : decode cX8_copy 27 = .ok (.getfield 47, 3) := by decide +kernel
theorem dX8_copy_30 : decode cX8_copy 30 = .ok (.iload_n 3, 1) := by decide +kernel
theorem dX8_copy_31 : decode cX8_copy 31 = .ok (.iaload, 1) := by decide +kernel
theorem dX8_copy_32 : decode cX8_copy 32 = .ok (.ifCond .ge 9, 3) := by decide +kernel
theorem dX8_copy_35 : decode cX8_copy 35 = .ok (.aload_n 0, 1) := by decide +kernel
theorem dX8_copy_36 : decode cX8_copy 36 = .ok (.iconst 1, 1) := by decide +kernel
theorem dX8_copy_37 : decode cX8_copy 37 = .ok (.invokevirtual 171, 3) := by decide +kernel
theorem dX8_copy_40 : decode cX8_copy 40 = .ok (.ireturn, 1) := by decide +kernel
theorem dX8_copy_41 : decode cX8_copy 41 = .ok (.aload_n 0, 1) := by decide +kernel
theorem dX8_copy_42 : decode cX8_copy 42 = .ok (.getfield 47, 3) := by decide +kernel
theorem dX8_copy_45 : decode cX8_copy 45 = .ok (.iload_n 1, 1) := by decide +kernel
theorem dX8_copy_46 : decode cX8_copy 46 = .ok (.iaload, 1) := by decide +kernel
theorem dX8_copy_47 : decode cX8_copy 47 = .ok (.aload_n 0, 1) := by decide +kernel
theorem dX8_copy_48 : decode cX8_copy 48 = .ok (.getfield 47, 3) := by decide +kernel
theorem dX8_copy_51 : decode cX8_copy 51 = .ok (.iload_n 3, 1) := by decide +kernel
theorem dX8_copy_52 : decode cX8_copy 52 = .ok (.iaload, 1) := by decide +kernel
theorem dX8_copy_53 : decode cX8_copy 53 = .ok (.if_icmp .eq 9, 3) := by decide +kernel
theorem dX8_copy_56 : decode cX8_copy 56 = .ok (.aload_n 0, 1) := by decide +kernel
theorem dX8_copy_57 : decode cX8_copy 57 = .ok (.iconst 4, 1) := by decide +kernel
theorem dX8_copy_58 : decode cX8_copy 58 = .ok (.invokevirtual 171, 3) := by decide +kernel
theorem dX8_copy_61 : decode cX8_copy 61 = .ok (.ireturn, 1) := by decide +kernel
theorem dX8_copy_62 : decode cX8_copy 62 = .ok (.aload_n 0, 1) := by decide +kernel
theorem dX8_copy_63 : decode cX8_copy 63 = .ok (.iload_n 1, 1) := by decide +kernel
theorem dX8_copy_64 : decode cX8_copy 64 = .ok (.iload_n 2, 1) := by decide +kernel
theorem dX8_copy_65 : decode cX8_copy 65 = .ok (.iload 5, 2) := by decide +kernel
theorem dX8_copy_67 : decode cX8_copy 67 = .ok (.invokevirtual 180, 3) := by decide +kernel
theorem dX8_copy_70 : decode cX8_copy 70 = .ok (.ifCond .eq 15, 3) := by decide +kernel
theorem dX8_copy_73 : decode cX8_copy 73 = .ok (.aload_n 0, 1) := by decide +kernel
theorem dX8_copy_74 : decode cX8_copy 74 = .ok (.iload_n 3, 1) := by decide +kernel
theorem dX8_copy_75 : decode cX8_copy 75 = .ok (.iload 4, 2) := by decide +kernel
theorem dX8_copy_77 : decode cX8_copy 77 = .ok (.iload 5, 2) := by decide +kernel
theorem dX8_copy_79 : decode cX8_copy 79 = .ok (.invokevirtual 180, 3) := by decide +kernel
theorem dX8_copy_82 : decode cX8_copy 82 = .ok (.ifCond .ne 9, 3) := by decide +kernel
theorem dX8_copy_85 : decode cX8_copy 85 = .ok (.aload_n 0, 1) := by decide +kernel
theorem dX8_copy_86 : decode cX8_copy 86 = .ok (.iconst 2, 1) := by decide +kernel
theorem dX8_copy_87 : decode cX8_copy 87 = .ok (.invokevirtual 171, 3) := by decide +kernel
theorem dX8_copy_90 : decode cX8_copy 90 = .ok (.ireturn, 1) := by decide +kernel
theorem dX8_copy_91 : decode cX8_copy 91 = .ok (.iconst 0, 1) := by decide +kernel
theorem dX8_copy_92 : decode cX8_copy 92 = .ok (.istore 6, 2) := by decide +kernel
theorem dX8_copy_94 : decode cX8_copy 94 = .ok (.iload 6, 2) := by decide +kernel
theorem dX8_copy_96 : decode cX8_copy 96 = .ok (.iload 5, 2) := by decide +kernel
theorem dX8_copy_98 : decode cX8_copy 98 = .ok (.if_icmp .ge 31, 3) := by decide +kernel
theorem dX8_copy_101 : decode cX8_copy 101 = .ok (.aload_n 0, 1) := by decide +kernel
theorem dX8_copy_102 : decode cX8_copy 102 = .ok (.getfield 56, 3) := by decide +kernel
theorem dX8_copy_105 : decode cX8_copy 105 = .ok (.iload 6, 2) := by decide +kernel
theorem dX8_copy_107 : decode cX8_copy 107 = .ok (.aload_n 0, 1) := by decide +kernel
theorem dX8_copy_108 : decode cX8_copy 108 = .ok (.getfield 53, 3) := by decide +kernel
theorem dX8_copy_111 : decode cX8_copy 111 = .ok (.sipush 200, 3) := by decide +kernel
theorem dX8_copy_114 : decode cX8_copy 114 = .ok (.iload_n 1, 1) := by decide +kernel
theorem dX8_copy_115 : decode cX8_copy 115 = .ok (.imul, 1) := by decide +kernel
theorem dX8_copy_116 : decode cX8_copy 116 = .ok (.iload_n 2, 1) := by decide +kernel
theorem dX8_copy_117 : decode cX8_copy 117 = .ok (.iadd, 1) := by decide +kernel
theorem dX8_copy_118 : decode cX8_copy 118 = .ok (.iload 6, 2) := by decide +kernel
theorem dX8_copy_120 : decode cX8_copy 120 = .ok (.iadd, 1) := by decide +kernel
theorem dX8_copy_121 : decode cX8_copy 121 = .ok (.iaload, 1) := by decide +kernel
theorem dX8_copy_122 : decode cX8_copy 122 = .ok (.iastore, 1) := by decide +kernel
theorem dX8_copy_123 : decode cX8_copy 123 = .ok (.iinc 6 1, 3) := by decide +kernel
theorem dX8_copy_126 : decode cX8_copy 126 = .ok (.goto (-32), 3) := by decide +kernel
theorem dX8_copy_129 : decode cX8_copy 129 = .ok (.iconst 0, 1) := by decide +kernel
theorem dX8_copy_130 : decode cX8_copy 130 = .ok (.istore 6, 2) := by decide +kernel
theorem dX8_copy_132 : decode cX8_copy 132 = .ok (.iload 6, 2) := by decide +kernel
theorem dX8_copy_134 : decode cX8_copy 134 = .ok (.iload 5, 2) := by decide +kernel
theorem dX8_copy_136 : decode cX8_copy 136 = .ok (.if_icmp .ge 32, 3) := by decide +kernel
theorem dX8_copy_139 : decode cX8_copy 139 = .ok (.aload_n 0, 1) := by decide +kernel
theorem dX8_copy_140 : decode cX8_copy 140 = .ok (.getfield 53, 3) := by decide +kernel
theorem dX8_copy_143 : decode cX8_copy 143 = .ok (.sipush 200, 3) := by decide +kernel
theorem dX8_copy_146 : decode cX8_copy 146 = .ok (.iload_n 3, 1) := by decide +kernel
theorem dX8_copy_147 : decode cX8_copy 147 = .ok (.imul, 1) := by decide +kernel
theorem dX8_copy_148 : decode cX8_copy 148 = .ok (.iload 4, 2) := by decide +kernel
theorem dX8_copy_150 : decode cX8_copy 150 = .ok (.iadd, 1) := by decide +kernel
theorem dX8_copy_151 : decode cX8_copy 151 = .ok (.iload 6, 2) := by decide +kernel
theorem dX8_copy_153 : decode cX8_copy 153 = .ok (.iadd, 1) := by decide +kernel
theorem dX8_copy_154 : decode cX8_copy 154 = .ok (.aload_n 0, 1) := by decide +kernel
theorem dX8_copy_155 : decode cX8_copy 155 = .ok (.getfield 56, 3) := by decide +kernel
theorem dX8_copy_158 : decode cX8_copy 158 = .ok (.iload 6, 2) := by decide +kernel
theorem dX8_copy_160 : decode cX8_copy 160 = .ok (.iaload, 1) := by decide +kernel
theorem dX8_copy_161 : decode cX8_copy 161 = .ok (.iastore, 1) := by decide +kernel
theorem dX8_copy_162 : decode cX8_copy 162 = .ok (.iinc 6 1, 3) := by decide +kernel
theorem dX8_copy_165 : decode cX8_copy 165 = .ok (.goto (-33), 3) := by decide +kernel
theorem dX8_copy_168 : decode cX8_copy 168 = .ok (.iconst 1, 1) := by decide +kernel
theorem dX8_copy_169 : decode cX8_copy 169 = .ok (.ireturn, 1) := by decide +kernel
theorem dX8_print_0 : decode cX8_print 0 = .ok (.iload_n 1, 1) := by decide +kernel
theorem dX8_print_1 : decode cX8_print 1 = .ok (.invokestatic 168, 3) := by decide +kernel
theorem dX8_print_4 : decode cX8_print 4 = .ok (.ifCond .eq 24, 3) := by decide +kernel
theorem dX8_print_7 : decode cX8_print 7 = .ok (.iload_n 3, 1) := by decide +kernel
theorem dX8_print_8 : decode cX8_print 8 = .ok (.i2l, 1) := by decide +kernel
theorem dX8_print_9 : decode cX8_print 9 = .ok (.lconst 0, 1) := by decide +kernel
theorem dX8_print_10 : decode cX8_print 10 = .ok (.aload_n 0, 1) := by decide +kernel
theorem dX8_print_11 : decode cX8_print 11 = .ok (.getfield 99, 3) := by decide +kernel
theorem dX8_print_14 : decode cX8_print 14 = .ok (.iconst 1, 1) := by decide +kernel
theorem dX8_print_15 : decode cX8_print 15 = .ok (.isub, 1) := by decide +kernel
theorem dX8_print_16 : decode cX8_print 16 = .ok (.i2l, 1) := by decide +kernel
theorem dX8_print_17 : decode cX8_print 17 = .ok (.invokestatic 86, 3) := by decide +kernel
theorem dX8_print_20 : decode cX8_print 20 = .ok (.ifCond .eq 8, 3) := by decide +kernel
theorem dX8_print_23 : decode cX8_print 23 = .ok (.iload 4, 2) := by decide +kernel
theorem dX8_print_25 : decode cX8_print 25 = .ok (.ifCond .ge 6, 3) := by decide +kernel
theorem dX8_print_28 : decode cX8_print 28 = .ok (.bipush (-2), 2) := by decide +kernel
theorem dX8_print_30 : decode cX8_print 30 = .ok (.ireturn, 1) := by decide +kernel
theorem dX8_print_31 : decode cX8_print 31 = .ok (.aload_n 0, 1) := by decide +kernel
theorem dX8_print_32 : decode cX8_print 32 = .ok (.getfield 112, 3) := by decide +kernel
theorem dX8_print_35 : decode cX8_print 35 = .ok (.iconst (-1), 1) := by decide +kernel
theorem dX8_print_36 : decode cX8_print 36 = .ok (.if_icmp .ne 6, 3) := by decide +kernel
theorem dX8_print_39 : decode cX8_print 39 = .ok (.bipush (-3), 2) := by decide +kernel
theorem dX8_print_41 : decode cX8_print 41 = .ok (.ireturn, 1) := by decide +kernel
theorem dX8_print_42 : decode cX8_print 42 = .ok (.aload_n 0, 1) := by decide +kernel
theorem dX8_print_43 : decode cX8_print 43 = .ok (.getfield 47, 3) := by decide +kernel
theorem dX8_print_46 : decode cX8_print 46 = .ok (.iload_n 1, 1) := by decide +kernel
theorem dX8_print_47 : decode cX8_print 47 = .ok (.iaload, 1) := by decide +kernel
theorem dX8_print_48 : decode cX8_print 48 = .ok (.ifCond .ge 9, 3) := by decide +kernel
theorem dX8_print_51 : decode cX8_print 51 = .ok (.aload_n 0, 1) := by decide +kernel
theorem dX8_print_52 : decode cX8_print 52 = .ok (.iconst 1, 1) := by decide +kernel
theorem dX8_print_53 : decode cX8_print 53 = .ok (.invokevirtual 171, 3) := by decide +kernel
theorem dX8_print_56 : decode cX8_print 56 = .ok (.ireturn, 1) := by decide +kernel
theorem dX8_print_57 : decode cX8_print 57 = .ok (.aload_n 0, 1) := by decide +kernel
theorem dX8_print_58 : decode cX8_print 58 = .ok (.iload_n 1, 1) := by decide +kernel
theorem dX8_print_59 : decode cX8_print 59 = .ok (.iload_n 2, 1) := by decide +kernel
theorem dX8_print_60 : decode cX8_print 60 = .ok (.iload 4, 2) := by decide +kernel
theorem dX8_print_62 : decode cX8_print 62 = .ok (.invokevirtual 180, 3) := by decide +kernel
theorem dX8_print_65 : decode cX8_print 65 = .ok (.ifCond .ne 9, 3) := by decide +kernel
theorem dX8_print_68 : decode cX8_print 68 = .ok (.aload_n 0, 1) := by decide +kernel
theorem dX8_print_69 : decode cX8_print 69 = .ok (.iconst 2, 1) := by decide +kernel
theorem dX8_print_70 : decode cX8_print 70 = .ok (.invokevirtual 171, 3) := by decide +kernel
theorem dX8_print_73 : decode cX8_print 73 = .ok (.ireturn, 1) := by decide +kernel
theorem dX8_print_74 : decode cX8_print 74 = .ok (.iconst 0, 1) := by decide +kernel
theorem dX8_print_75 : decode cX8_print 75 = .ok (.istore 5, 2) := by decide +kernel
theorem dX8_print_77 : decode cX8_print 77 = .ok (.iload 5, 2) := by decide +kernel
theorem dX8_print_79 : decode cX8_print 79 = .ok (.iload 4, 2) := by decide +kernel
theorem dX8_print_81 : decode cX8_print 81 = .ok (.if_icmp .ge 38, 3) := by decide +kernel
theorem dX8_print_84 : decode cX8_print 84 = .ok (.aload_n 0, 1) := by decide +kernel
theorem dX8_print_85 : decode cX8_print 85 = .ok (.getfield 53, 3) := by decide +kernel
theorem dX8_print_88 : decode cX8_print 88 = .ok (.sipush 200, 3) := by decide +kernel
theorem dX8_print_91 : decode cX8_print 91 = .ok (.iload_n 1, 1) := by decide +kernel
theorem dX8_print_92 : decode cX8_print 92 = .ok (.imul, 1) := by decide +kernel
theorem dX8_print_93 : decode cX8_print 93 = .ok (.iload_n 2, 1) := by decide +kernel
theorem dX8_print_94 : decode cX8_print 94 = .ok (.iadd, 1) := by decide +kernel
theorem dX8_print_95 : decode cX8_print 95 = .ok (.iload 5, 2) := by decide +kernel
theorem dX8_print_97 : decode cX8_print 97 = .ok (.iadd, 1) := by decide +kernel
theorem dX8_print_98 : decode cX8_print 98 = .ok (.aload_n 0, 1) := by decide +kernel
theorem dX8_print_99 : decode cX8_print 99 = .ok (.getfield 41, 3) := by decide +kernel
theorem dX8_print_102 : decode cX8_print 102 = .ok (.iload_n 3, 1) := by decide +kernel
theorem dX8_print_103 : decode cX8_print 103 = .ok (.iload 5, 2) := by decide +kernel
theorem dX8_print_105 : decode cX8_print 105 = .ok (.iadd, 1) := by decide +kernel
theorem dX8_print_106 : decode cX8_print 106 = .ok (.aload_n 0, 1) := by decide +kernel
theorem dX8_print_107 : decode cX8_print 107 = .ok (.getfield 99, 3) := by decide +kernel
theorem dX8_print_110 : decode cX8_print 110 = .ok (.irem, 1) := by decide +kernel
theorem dX8_print_111 : decode cX8_print 111 = .ok (.iaload, 1) := by decide +kernel
theorem dX8_print_112 : decode cX8_print 112 = .ok (.iastore, 1) := by decide +kernel
theorem dX8_print_113 : decode cX8_print 113 = .ok (.iinc 5 1, 3) := by decide +kernel
theorem dX8_print_116 : decode cX8_print 116 = .ok (.goto (-39), 3) := by decide +kernel
theorem dX8_print_119 : decode cX8_print 119 = .ok (.iload 4, 2) := by decide +kernel
theorem dX8_print_121 : decode cX8_print 121 = .ok (.ireturn, 1) := by decide +kernel
theorem dX8_find_0 : decode cX8_find 0 = .ok (.iload_n 1, 1) := by decide +kernel
theorem dX8_find_1 : decode cX8_find 1 = .ok (.invokestatic 168, 3) := by decide +kernel
theorem dX8_find_4 : decode cX8_find 4 = .ok (.ifCond .eq 28, 3) := by decide +kernel
theorem dX8_find_7 : decode cX8_find 7 = .ok (.iload_n 3, 1) := by decide +kernel
theorem dX8_find_8 : decode cX8_find 8 = .ok (.i2l, 1) := by decide +kernel
theorem dX8_find_9 : decode cX8_find 9 = .ok (.lconst 1, 1) := by decide +kernel
theorem dX8_find_10 : decode cX8_find 10 = .ok (.ldc2_w 184, 3) := by decide +kernel
theorem dX8_find_13 : decode cX8_find 13 = .ok (.invokestatic 86, 3) := by decide +kernel
theorem dX8_find_16 : decode cX8_find 16 = .ok (.ifCond .eq 16, 3) := by decide +kernel
theorem dX8_find_19 : decode cX8_find 19 = .ok (.iload 4, 2) := by decide +kernel
theorem dX8_find_21 : decode cX8_find 21 = .ok (.i2l, 1) := by decide +kernel
theorem dX8_find_22 : decode cX8_find 22 = .ok (.lconst 0, 1) := by decide +kernel
theorem dX8_find_23 : decode cX8_find 23 = .ok (.ldc2_w 184, 3) := by decide +kernel
theorem dX8_find_26 : decode cX8_find 26 = .ok (.invokestatic 86, 3) := by decide +kernel
theorem dX8_find_29 : decode cX8_find 29 = .ok (.ifCond .ne 6, 3) := by decide +kernel
theorem dX8_find_32 : decode cX8_find 32 = .ok (.bipush (-2), 2) := by decide +kernel
theorem dX8_find_34 : decode cX8_find 34 = .ok (.ireturn, 1) := by decide +kernel
theorem dX8_find_35 : decode cX8_find 35 = .ok (.aload_n 0, 1) := by decide +kernel
theorem dX8_find_36 : decode cX8_find 36 = .ok (.getfield 112, 3) := by decide +kernel
theorem dX8_find_39 : decode cX8_find 39 = .ok (.iconst (-1), 1) := by decide +kernel
theorem dX8_find_40 : decode cX8_find 40 = .ok (.if_icmp .ne 6, 3) := by decide +kernel
theorem dX8_find_43 : decode cX8_find 43 = .ok (.bipush (-3), 2) := by decide +kernel
theorem dX8_find_45 : decode cX8_find 45 = .ok (.ireturn, 1) := by decide +kernel
theorem dX8_find_46 : decode cX8_find 46 = .ok (.aload_n 0, 1) := by decide +kernel
theorem dX8_find_47 : decode cX8_find 47 = .ok (.getfield 47, 3) := by decide +kernel
theorem dX8_find_50 : decode cX8_find 50 = .ok (.iload_n 1, 1) := by decide +kernel
theorem dX8_find_51 : decode cX8_find 51 = .ok (.iaload, 1) := by decide +kernel
theorem dX8_find_52 : decode cX8_find 52 = .ok (.ifCond .ge 9, 3) := by decide +kernel
theorem dX8_find_55 : decode cX8_find 55 = .ok (.aload_n 0, 1) := by decide +kernel
theorem dX8_find_56 : decode cX8_find 56 = .ok (.iconst 1, 1) := by decide +kernel
theorem dX8_find_57 : decode cX8_find 57 = .ok (.invokevirtual 171, 3) := by decide +kernel
theorem dX8_find_60 : decode cX8_find 60 = .ok (.ireturn, 1) := by decide +kernel
theorem dX8_find_61 : decode cX8_find 61 = .ok (.aload_n 0, 1) := by decide +kernel
theorem dX8_find_62 : decode cX8_find 62 = .ok (.iload_n 1, 1) := by decide +kernel
theorem dX8_find_63 : decode cX8_find 63 = .ok (.iload_n 2, 1) := by decide +kernel
theorem dX8_find_64 : decode cX8_find 64 = .ok (.iload_n 3, 1) := by decide +kernel
theorem dX8_find_65 : decode cX8_find 65 = .ok (.invokevirtual 180, 3) := by decide +kernel
theorem dX8_find_68 : decode cX8_find 68 = .ok (.ifCond .ne 9, 3) := by decide +kernel
theorem dX8_find_71 : decode cX8_find 71 = .ok (.aload_n 0, 1) := by decide +kernel
theorem dX8_find_72 : decode cX8_find 72 = .ok (.iconst 2, 1) := by decide +kernel
theorem dX8_find_73 : decode cX8_find 73 = .ok (.invokevirtual 171, 3) := by decide +kernel
theorem dX8_find_76 : decode cX8_find 76 = .ok (.ireturn, 1) := by decide +kernel
theorem dX8_find_77 : decode cX8_find 77 = .ok (.iconst 0, 1) := by decide +kernel
theorem dX8_find_78 : decode cX8_find 78 = .ok (.istore 5, 2) := by decide +kernel
theorem dX8_find_80 : decode cX8_find 80 = .ok (.iconst 0, 1) := by decide +kernel
theorem dX8_find_81 : decode cX8_find 81 = .ok (.istore 6, 2) := by decide +kernel
theorem dX8_find_83 : decode cX8_find 83 = .ok (.iload 6, 2) := by decide +kernel
theorem dX8_find_85 : decode cX8_find 85 = .ok (.aload_n 0, 1) := by decide +kernel
theorem dX8_find_86 : decode cX8_find 86 = .ok (.getfield 99, 3) := by decide +kernel
theorem dX8_find_89 : decode cX8_find 89 = .ok (.if_icmp .ge 119, 3) := by decide +kernel
theorem dX8_find_92 : decode cX8_find 92 = .ok (.iconst 0, 1) := by decide +kernel
theorem dX8_find_93 : decode cX8_find 93 = .ok (.istore 7, 2) := by decide +kernel
theorem dX8_find_95 : decode cX8_find 95 = .ok (.iconst 0, 1) := by decide +kernel
theorem dX8_find_96 : decode cX8_find 96 = .ok (.istore 8, 2) := by decide +kernel
theorem dX8_find_98 : decode cX8_find 98 = .ok (.iload 8, 2) := by decide +kernel
theorem dX8_find_100 : decode cX8_find 100 = .ok (.iload_n 3, 1) := by decide +kernel
theorem dX8_find_101 : decode cX8_find 101 = .ok (.if_icmp .ge 73, 3) := by decide +kernel
theorem dX8_find_104 : decode cX8_find 104 = .ok (.aload_n 0, 1) := by decide +kernel
theorem dX8_find_105 : decode cX8_find 105 = .ok (.getfield 53, 3) := by decide +kernel
theorem dX8_find_108 : decode cX8_find 108 = .ok (.sipush 200, 3) := by decide +kernel
theorem dX8_find_111 : decode cX8_find 111 = .ok (.iload_n 1, 1) := by decide +kernel
theorem dX8_find_112 : decode cX8_find 112 = .ok (.imul, 1) := by decide +kernel
theorem dX8_find_113 : decode cX8_find 113 = .ok (.iload_n 2, 1) := by decide +kernel
theorem dX8_find_114 : decode cX8_find 114 = .ok (.iadd, 1) := by decide +kernel
theorem dX8_find_115 : decode cX8_find 115 = .ok (.iload 8, 2) := by decide +kernel
theorem dX8_find_117 : decode cX8_find 117 = .ok (.iadd, 1) := by decide +kernel
theorem dX8_find_118 : decode cX8_find 118 = .ok (.iaload, 1) := by decide +kernel
theorem dX8_find_119 : decode cX8_find 119 = .ok (.istore 9, 2) := by decide +kernel
theorem dX8_find_121 : decode cX8_find 121 = .ok (.iload 7, 2) := by decide +kernel
theorem dX8_find_123 : decode cX8_find 123 = .ok (.iload 9, 2) := by decide +kernel
theorem dX8_find_125 : decode cX8_find 125 = .ok (.i2l, 1) := by decide +kernel
theorem dX8_find_126 : decode cX8_find 126 = .ok (.lconst 0, 1) := by decide +kernel
theorem dX8_find_127 : decode cX8_find 127 = .ok (.aload_n 0, 1) := by decide +kernel
theorem dX8_find_128 : decode cX8_find 128 = .ok (.getfield 92, 3) := by decide +kernel
theorem dX8_find_131 : decode cX8_find 131 = .ok (.iconst 1, 1) := by decide +kernel
theorem dX8_find_132 : decode cX8_find 132 = .ok (.isub, 1) := by decide +kernel
theorem dX8_find_133 : decode cX8_find 133 = .ok (.i2l, 1) := by decide +kernel
theorem dX8_find_134 : decode cX8_find 134 = .ok (.invokestatic 86, 3) := by decide +kernel
theorem dX8_find_137 : decode cX8_find 137 = .ok (.ifCond .eq 27, 3) := by decide +kernel
theorem dX8_find_140 : decode cX8_find 140 = .ok (.iload 9, 2) := by decide +kernel
theorem dX8_find_142 : decode cX8_find 142 = .ok (.aload_n 0, 1) := by decide +kernel
theorem dX8_find_143 : decode cX8_find 143 = .ok (.getfield 41, 3) := by decide +kernel
theorem dX8_find_146 : decode cX8_find 146 = .ok (.iload 6, 2) := by decide +kernel
theorem dX8_find_148 : decode cX8_find 148 = .ok (.iload 8, 2) := by decide +kernel
theorem dX8_find_150 : decode cX8_find 150 = .ok (.iadd, 1) := by decide +kernel
theorem dX8_find_151 : decode cX8_find 151 = .ok (.aload_n 0, 1) := by decide +kernel
theorem dX8_find_152 : decode cX8_find 152 = .ok (.getfield 99, 3) := by decide +kernel
theorem dX8_find_155 : decode cX8_find 155 = .ok (.irem, 1) := by decide +kernel
theorem dX8_find_156 : decode cX8_find 156 = .ok (.iaload, 1) := by decide +kernel
theorem dX8_find_157 : decode cX8_find 157 = .ok (.if_icmp .eq 7, 3) := by decide +kernel
theorem dX8_find_160 : decode cX8_find 160 = .ok (.iconst 1, 1) := by decide +kernel
theorem dX8_find_161 : decode cX8_find 161 = .ok (.goto 4, 3) := by decide +kernel
theorem dX8_find_164 : decode cX8_find 164 = .ok (.iconst 0, 1) := by decide +kernel
theorem dX8_find_165 : decode cX8_find 165 = .ok (.iadd, 1) := by decide +kernel
theorem dX8_find_166 : decode cX8_find 166 = .ok (.istore 7, 2) := by decide +kernel
theorem dX8_find_168 : decode cX8_find 168 = .ok (.iinc 8 1, 3) := by decide +kernel
theorem dX8_find_171 : decode cX8_find 171 = .ok (.goto (-73), 3) := by decide +kernel
theorem dX8_find_174 : decode cX8_find 174 = .ok (.iload 7, 2) := by decide +kernel
theorem dX8_find_176 : decode cX8_find 176 = .ok (.iload 4, 2) := by decide +kernel
theorem dX8_find_178 : decode cX8_find 178 = .ok (.if_icmp .gt 24, 3) := by decide +kernel
theorem dX8_find_181 : decode cX8_find 181 = .ok (.aload_n 0, 1) := by decide +kernel
theorem dX8_find_182 : decode cX8_find 182 = .ok (.iload 5, 2) := by decide +kernel
theorem dX8_find_184 : decode cX8_find 184 = .ok (.ifCond .ne 8, 3) := by decide +kernel
theorem dX8_find_187 : decode cX8_find 187 = .ok (.iload 6, 2) := by decide +kernel
theorem dX8_find_189 : decode cX8_find 189 = .ok (.goto 7, 3) := by decide +kernel
theorem dX8_find_192 : decode cX8_find 192 = .ok (.aload_n 0, 1) := by decide +kernel
theorem dX8_find_193 : decode cX8_find 193 = .ok (.getfield 115, 3) := by decide +kernel
theorem dX8_find_196 : decode cX8_find 196 = .ok (.putfield 115, 3) := by decide +kernel
theorem dX8_find_199 : decode cX8_find 199 = .ok (.iinc 5 1, 3) := by decide +kernel
theorem dX8_find_202 : decode cX8_find 202 = .ok (.iinc 6 1, 3) := by decide +kernel
theorem dX8_find_205 : decode cX8_find 205 = .ok (.goto (-122), 3) := by decide +kernel
theorem dX8_find_208 : decode cX8_find 208 = .ok (.iload 5, 2) := by decide +kernel
theorem dX8_find_210 : decode cX8_find 210 = .ok (.ireturn, 1) := by decide +kernel
theorem dX8_found_0 : decode cX8_found 0 = .ok (.aload_n 0, 1) := by decide +kernel
theorem dX8_found_1 : decode cX8_found 1 = .ok (.getfield 115, 3) := by decide +kernel
theorem dX8_found_4 : decode cX8_found 4 = .ok (.ireturn, 1) := by decide +kernel
theorem dX8_noLetters_0 : decode cX8_noLetters 0 = .ok (.aload_n 0, 1) := by decide +kernel
theorem dX8_noLetters_1 : decode cX8_noLetters 1 = .ok (.getfield 47, 3) := by decide +kernel
theorem dX8_noLetters_4 : decode cX8_noLetters 4 = .ok (.iload_n 1, 1) := by decide +kernel
theorem dX8_noLetters_5 : decode cX8_noLetters 5 = .ok (.iaload, 1) := by decide +kernel
theorem dX8_noLetters_6 : decode cX8_noLetters 6 = .ok (.ifCond .ge 9, 3) := by decide +kernel
theorem dX8_noLetters_9 : decode cX8_noLetters 9 = .ok (.aload_n 0, 1) := by decide +kernel
theorem dX8_noLetters_10 : decode cX8_noLetters 10 = .ok (.iconst 1, 1) := by decide +kernel
theorem dX8_noLetters_11 : decode cX8_noLetters 11 = .ok (.invokevirtual 171, 3) := by decide +kernel
theorem dX8_noLetters_14 : decode cX8_noLetters 14 = .ok (.ireturn, 1) := by decide +kernel
theorem dX8_noLetters_15 : decode cX8_noLetters 15 = .ok (.iconst 1, 1) := by decide +kernel
theorem dX8_noLetters_16 : decode cX8_noLetters 16 = .ok (.istore_n 2, 1) := by decide +kernel
theorem dX8_noLetters_17 : decode cX8_noLetters 17 = .ok (.iconst 0, 1) := by decide +kernel
theorem dX8_noLetters_18 : decode cX8_noLetters 18 = .ok (.istore_n 3, 1) := by decide +kernel
theorem dX8_noLetters_19 : decode cX8_noLetters 19 = .ok (.iload_n 3, 1) := by decide +kernel
theorem dX8_noLetters_20 : decode cX8_noLetters 20 = .ok (.aload_n 0, 1) := by decide +kernel
theorem dX8_noLetters_21 : decode cX8_noLetters 21 = .ok (.getfield 50, 3) := by decide +kernel
theorem dX8_noLetters_24 : decode cX8_noLetters 24 = .ok (.iload_n 1, 1) := by decide +kernel
theorem dX8_noLetters_25 : decode cX8_noLetters 25 = .ok (.iaload, 1) := by decide +kernel
theorem dX8_noLetters_26 : decode cX8_noLetters 26 = .ok (.if_icmp .ge 46, 3) := by decide +kernel
theorem dX8_noLetters_29 : decode cX8_noLetters 29 = .ok (.iload_n 2, 1) := by decide +kernel
theorem dX8_noLetters_30 : decode cX8_noLetters 30 = .ok (.ifCond .eq 34, 3) := by decide +kernel
theorem dX8_noLetters_33 : decode cX8_noLetters 33 = .ok (.aload_n 0, 1) := by decide +kernel
theorem dX8_noLetters_34 : decode cX8_noLetters 34 = .ok (.getfield 53, 3) := by decide +kernel
theorem dX8_noLetters_37 : decode cX8_noLetters 37 = .ok (.sipush 200, 3) := by decide +kernel
theorem dX8_noLetters_40 : decode cX8_noLetters 40 = .ok (.iload_n 1, 1) := by decide +kernel
theorem dX8_noLetters_41 : decode cX8_noLetters 41 = .ok (.imul, 1) := by decide +kernel
theorem dX8_noLetters_42 : decode cX8_noLetters 42 = .ok (.iload_n 3, 1) := by decide +kernel
theorem dX8_noLetters_43 : decode cX8_noLetters 43 = .ok (.iadd, 1) := by decide +kernel
theorem dX8_noLetters_44 : decode cX8_noLetters 44 = .ok (.iaload, 1) := by decide +kernel
theorem dX8_noLetters_45 : decode cX8_noLetters 45 = .ok (.i2l, 1) := by decide +kernel
theorem dX8_noLetters_46 : decode cX8_noLetters 46 = .ok (.lconst 0, 1) := by decide +kernel
theorem dX8_noLetters_47 : decode cX8_noLetters 47 = .ok (.aload_n 0, 1) := by decide +kernel
theorem dX8_noLetters_48 : decode cX8_noLetters 48 = .ok (.getfield 92, 3) := by decide +kernel
theorem dX8_noLetters_51 : decode cX8_noLetters 51 = .ok (.iconst 1, 1) := by decide +kernel
theorem dX8_noLetters_52 : decode cX8_noLetters 52 = .ok (.isub, 1) := by decide +kernel
theorem dX8_noLetters_53 : decode cX8_noLetters 53 = .ok (.i2l, 1) := by decide +kernel
theorem dX8_noLetters_54 : decode cX8_noLetters 54 = .ok (.invokestatic 86, 3) := by decide +kernel
theorem dX8_noLetters_57 : decode cX8_noLetters 57 = .ok (.ifCond .eq 7, 3) := by decide +kernel
theorem dX8_noLetters_60 : decode cX8_noLetters 60 = .ok (.iconst 1, 1) := by decide +kernel
theorem dX8_noLetters_61 : decode cX8_noLetters 61 = .ok (.goto 4, 3) := by decide +kernel
theorem dX8_noLetters_64 : decode cX8_noLetters 64 = .ok (.iconst 0, 1) := by decide +kernel
theorem dX8_noLetters_65 : decode cX8_noLetters 65 = .ok (.istore_n 2, 1) := by decide +kernel
theorem dX8_noLetters_66 : decode cX8_noLetters 66 = .ok (.iinc 3 1, 3) := by decide +kernel
theorem dX8_noLetters_69 : decode cX8_noLetters 69 = .ok (.goto (-50), 3) := by decide +kernel
theorem dX8_noLetters_72 : decode cX8_noLetters 72 = .ok (.iload_n 2, 1) := by decide +kernel
theorem dX8_noLetters_73 : decode cX8_noLetters 73 = .ok (.ifCond .eq 7, 3) := by decide +kernel
theorem dX8_noLetters_76 : decode cX8_noLetters 76 = .ok (.iconst 0, 1) := by decide +kernel
theorem dX8_noLetters_77 : decode cX8_noLetters 77 = .ok (.goto 5, 3) := by decide +kernel
theorem dX8_noLetters_80 : decode cX8_noLetters 80 = .ok (.bipush (-3), 2) := by decide +kernel
theorem dX8_noLetters_82 : decode cX8_noLetters 82 = .ok (.ireturn, 1) := by decide +kernel
theorem dX8_twice_0 : decode cX8_twice 0 = .ok (.iload_n 1, 1) := by decide +kernel
theorem dX8_twice_1 : decode cX8_twice 1 = .ok (.invokestatic 168, 3) := by decide +kernel
theorem dX8_twice_4 : decode cX8_twice 4 = .ok (.ifCond .ne 6, 3) := by decide +kernel
theorem dX8_twice_7 : decode cX8_twice 7 = .ok (.bipush (-2), 2) := by decide +kernel
theorem dX8_twice_9 : decode cX8_twice 9 = .ok (.ireturn, 1) := by decide +kernel
theorem dX8_twice_10 : decode cX8_twice 10 = .ok (.aload_n 0, 1) := by decide +kernel
theorem dX8_twice_11 : decode cX8_twice 11 = .ok (.iload_n 1, 1) := by decide +kernel
theorem dX8_twice_12 : decode cX8_twice 12 = .ok (.invokevirtual 186, 3) := by decide +kernel
theorem dX8_twice_15 : decode cX8_twice 15 = .ok (.istore_n 2, 1) := by decide +kernel
theorem dX8_twice_16 : decode cX8_twice 16 = .ok (.iload_n 2, 1) := by decide +kernel
theorem dX8_twice_17 : decode cX8_twice 17 = .ok (.ifCond .eq 5, 3) := by decide +kernel
theorem dX8_twice_20 : decode cX8_twice 20 = .ok (.iload_n 2, 1) := by decide +kernel
theorem dX8_twice_21 : decode cX8_twice 21 = .ok (.ireturn, 1) := by decide +kernel
theorem dX8_twice_22 : decode cX8_twice 22 = .ok (.aload_n 0, 1) := by decide +kernel
theorem dX8_twice_23 : decode cX8_twice 23 = .ok (.getfield 50, 3) := by decide +kernel
theorem dX8_twice_26 : decode cX8_twice 26 = .ok (.iload_n 1, 1) := by decide +kernel
theorem dX8_twice_27 : decode cX8_twice 27 = .ok (.iaload, 1) := by decide +kernel
theorem dX8_twice_28 : decode cX8_twice 28 = .ok (.ifCond .ne 6, 3) := by decide +kernel
theorem dX8_twice_31 : decode cX8_twice 31 = .ok (.bipush (-3), 2) := by decide +kernel
theorem dX8_twice_33 : decode cX8_twice 33 = .ok (.ireturn, 1) := by decide +kernel
theorem dX8_twice_34 : decode cX8_twice 34 = .ok (.iconst 1, 1) := by decide +kernel
theorem dX8_twice_35 : decode cX8_twice 35 = .ok (.istore_n 3, 1) := by decide +kernel
theorem dX8_twice_36 : decode cX8_twice 36 = .ok (.iload_n 3, 1) := by decide +kernel
theorem dX8_twice_37 : decode cX8_twice 37 = .ok (.aload_n 0, 1) := by decide +kernel
theorem dX8_twice_38 : decode cX8_twice 38 = .ok (.getfield 50, 3) := by decide +kernel
theorem dX8_twice_41 : decode cX8_twice 41 = .ok (.iload_n 1, 1) := by decide +kernel
theorem dX8_twice_42 : decode cX8_twice 42 = .ok (.iaload, 1) := by decide +kernel
theorem dX8_twice_43 : decode cX8_twice 43 = .ok (.if_icmp .ge 112, 3) := by decide +kernel
theorem dX8_twice_46 : decode cX8_twice 46 = .ok (.iconst 0, 1) := by decide +kernel
theorem dX8_twice_47 : decode cX8_twice 47 = .ok (.istore 4, 2) := by decide +kernel
theorem dX8_twice_49 : decode cX8_twice 49 = .ok (.iload 4, 2) := by decide +kernel
theorem dX8_twice_51 : decode cX8_twice 51 = .ok (.iload_n 3, 1) := by decide +kernel
theorem dX8_twice_52 : decode cX8_twice 52 = .ok (.if_icmp .ge 97, 3) := by decide +kernel
theorem dX8_twice_55 : decode cX8_twice 55 = .ok (.iconst 1, 1) := by decide +kernel
theorem dX8_twice_56 : decode cX8_twice 56 = .ok (.istore 5, 2) := by decide +kernel
theorem dX8_twice_58 : decode cX8_twice 58 = .ok (.iconst 0, 1) := by decide +kernel
theorem dX8_twice_59 : decode cX8_twice 59 = .ok (.istore 6, 2) := by decide +kernel
theorem dX8_twice_61 : decode cX8_twice 61 = .ok (.iload 6, 2) := by decide +kernel
theorem dX8_twice_63 : decode cX8_twice 63 = .ok (.aload_n 0, 1) := by decide +kernel
theorem dX8_twice_64 : decode cX8_twice 64 = .ok (.getfield 96, 3) := by decide +kernel
theorem dX8_twice_67 : decode cX8_twice 67 = .ok (.if_icmp .ge 69, 3) := by decide +kernel
theorem dX8_twice_70 : decode cX8_twice 70 = .ok (.iload 5, 2) := by decide +kernel
theorem dX8_twice_72 : decode cX8_twice 72 = .ok (.ifCond .eq 64, 3) := by decide +kernel
theorem dX8_twice_75 : decode cX8_twice 75 = .ok (.aload_n 0, 1) := by decide +kernel
theorem dX8_twice_76 : decode cX8_twice 76 = .ok (.getfield 53, 3) := by decide +kernel
theorem dX8_twice_79 : decode cX8_twice 79 = .ok (.sipush 200, 3) := by decide +kernel
theorem dX8_twice_82 : decode cX8_twice 82 = .ok (.iload_n 1, 1) := by decide +kernel
theorem dX8_twice_83 : decode cX8_twice 83 = .ok (.imul, 1) := by decide +kernel
theorem dX8_twice_84 : decode cX8_twice 84 = .ok (.iload_n 3, 1) := by decide +kernel
theorem dX8_twice_85 : decode cX8_twice 85 = .ok (.iload 6, 2) := by decide +kernel
theorem dX8_twice_87 : decode cX8_twice 87 = .ok (.iadd, 1) := by decide +kernel
theorem dX8_twice_88 : decode cX8_twice 88 = .ok (.aload_n 0, 1) := by decide +kernel
theorem dX8_twice_89 : decode cX8_twice 89 = .ok (.getfield 50, 3) := by decide +kernel
theorem dX8_twice_92 : decode cX8_twice 92 = .ok (.iload_n 1, 1) := by decide +kernel
theorem dX8_twice_93 : decode cX8_twice 93 = .ok (.iaload, 1) := by decide +kernel
theorem dX8_twice_94 : decode cX8_twice 94 = .ok (.irem, 1) := by decide +kernel
theorem dX8_twice_95 : decode cX8_twice 95 = .ok (.iadd, 1) := by decide +kernel
theorem dX8_twice_96 : decode cX8_twice 96 = .ok (.iaload, 1) := by decide +kernel
theorem dX8_twice_97 : decode cX8_twice 97 = .ok (.aload_n 0, 1) := by decide +kernel
theorem dX8_twice_98 : decode cX8_twice 98 = .ok (.getfield 53, 3) := by decide +kernel
theorem dX8_twice_101 : decode cX8_twice 101 = .ok (.sipush 200, 3) := by decide +kernel
theorem dX8_twice_104 : decode cX8_twice 104 = .ok (.iload_n 1, 1) := by decide +kernel
theorem dX8_twice_105 : decode cX8_twice 105 = .ok (.imul, 1) := by decide +kernel
theorem dX8_twice_106 : decode cX8_twice 106 = .ok (.iload 4, 2) := by decide +kernel
theorem dX8_twice_108 : decode cX8_twice 108 = .ok (.iload 6, 2) := by decide +kernel
theorem dX8_twice_110 : decode cX8_twice 110 = .ok (.iadd, 1) := by decide +kernel
theorem dX8_twice_111 : decode cX8_twice 111 = .ok (.aload_n 0, 1) := by decide +kernel
theorem dX8_twice_112 : decode cX8_twice 112 = .ok (.getfield 50, 3) := by decide +kernel
theorem dX8_twice_115 : decode cX8_twice 115 = .ok (.iload_n 1, 1) := by decide +kernel
theorem dX8_twice_116 : decode cX8_twice 116 = .ok (.iaload, 1) := by decide +kernel
theorem dX8_twice_117 : decode cX8_twice 117 = .ok (.irem, 1) := by decide +kernel
theorem dX8_twice_118 : decode cX8_twice 118 = .ok (.iadd, 1) := by decide +kernel
theorem dX8_twice_119 : decode cX8_twice 119 = .ok (.iaload, 1) := by decide +kernel
theorem dX8_twice_120 : decode cX8_twice 120 = .ok (.if_icmp .ne 7, 3) := by decide +kernel
theorem dX8_twice_123 : decode cX8_twice 123 = .ok (.iconst 1, 1) := by decide +kernel
theorem dX8_twice_124 : decode cX8_twice 124 = .ok (.goto 4, 3) := by decide +kernel
theorem dX8_twice_127 : decode cX8_twice 127 = .ok (.iconst 0, 1) := by decide +kernel
theorem dX8_twice_128 : decode cX8_twice 128 = .ok (.istore 5, 2) := by decide +kernel
theorem dX8_twice_130 : decode cX8_twice 130 = .ok (.iinc 6 1, 3) := by decide +kernel
theorem dX8_twice_133 : decode cX8_twice 133 = .ok (.goto (-72), 3) := by decide +kernel
theorem dX8_twice_136 : decode cX8_twice 136 = .ok (.iload 5, 2) := by decide +kernel
theorem dX8_twice_138 : decode cX8_twice 138 = .ok (.ifCond .eq 5, 3) := by decide +kernel
theorem dX8_twice_141 : decode cX8_twice 141 = .ok (.iload_n 3, 1) := by decide +kernel
theorem dX8_twice_142 : decode cX8_twice 142 = .ok (.ireturn, 1) := by decide +kernel
theorem dX8_twice_143 : decode cX8_twice 143 = .ok (.iinc 4 1, 3) := by decide +kernel
theorem dX8_twice_146 : decode cX8_twice 146 = .ok (.goto (-97), 3) := by decide +kernel
theorem dX8_twice_149 : decode cX8_twice 149 = .ok (.iinc 3 1, 3) := by decide +kernel
theorem dX8_twice_152 : decode cX8_twice 152 = .ok (.goto (-116), 3) := by decide +kernel
theorem dX8_twice_155 : decode cX8_twice 155 = .ok (.iconst (-1), 1) := by decide +kernel
theorem dX8_twice_156 : decode cX8_twice 156 = .ok (.ireturn, 1) := by decide +kernel
theorem dX8_parts_0 : decode cX8_parts 0 = .ok (.iload_n 1, 1) := by decide +kernel
theorem dX8_parts_1 : decode cX8_parts 1 = .ok (.invokestatic 168, 3) := by decide +kernel
theorem dX8_parts_4 : decode cX8_parts 4 = .ok (.ifCond .ne 6, 3) := by decide +kernel
theorem dX8_parts_7 : decode cX8_parts 7 = .ok (.bipush (-2), 2) := by decide +kernel
theorem dX8_parts_9 : decode cX8_parts 9 = .ok (.ireturn, 1) := by decide +kernel
theorem dX8_parts_10 : decode cX8_parts 10 = .ok (.aload_n 0, 1) := by decide +kernel
theorem dX8_parts_11 : decode cX8_parts 11 = .ok (.iload_n 1, 1) := by decide +kernel
theorem dX8_parts_12 : decode cX8_parts 12 = .ok (.invokevirtual 186, 3) := by decide +kernel
theorem dX8_parts_15 : decode cX8_parts 15 = .ok (.istore_n 2, 1) := by decide +kernel
theorem dX8_parts_16 : decode cX8_parts 16 = .ok (.iload_n 2, 1) := by decide +kernel
theorem dX8_parts_17 : decode cX8_parts 17 = .ok (.ifCond .eq 5, 3) := by decide +kernel
theorem dX8_parts_20 : decode cX8_parts 20 = .ok (.iload_n 2, 1) := by decide +kernel
theorem dX8_parts_21 : decode cX8_parts 21 = .ok (.ireturn, 1) := by decide +kernel
theorem dX8_parts_22 : decode cX8_parts 22 = .ok (.aload_n 0, 1) := by decide +kernel
theorem dX8_parts_23 : decode cX8_parts 23 = .ok (.getfield 50, 3) := by decide +kernel
theorem dX8_parts_26 : decode cX8_parts 26 = .ok (.iload_n 1, 1) := by decide +kernel
theorem dX8_parts_27 : decode cX8_parts 27 = .ok (.iaload, 1) := by decide +kernel
theorem dX8_parts_28 : decode cX8_parts 28 = .ok (.istore_n 3, 1) := by decide +kernel
theorem dX8_parts_29 : decode cX8_parts 29 = .ok (.iconst 0, 1) := by decide +kernel
theorem dX8_parts_30 : decode cX8_parts 30 = .ok (.istore 4, 2) := by decide +kernel
theorem dX8_parts_32 : decode cX8_parts 32 = .ok (.iconst 0, 1) := by decide +kernel
theorem dX8_parts_33 : decode cX8_parts 33 = .ok (.istore 5, 2) := by decide +kernel
theorem dX8_parts_35 : decode cX8_parts 35 = .ok (.iload 5, 2) := by decide +kernel
theorem dX8_parts_37 : decode cX8_parts 37 = .ok (.iload_n 3, 1) := by decide +kernel
theorem dX8_parts_38 : decode cX8_parts 38 = .ok (.if_icmp .ge 129, 3) := by decide +kernel
theorem dX8_parts_41 : decode cX8_parts 41 = .ok (.iload 5, 2) := by decide +kernel
theorem dX8_parts_43 : decode cX8_parts 43 = .ok (.iconst 1, 1) := by decide +kernel
theorem dX8_parts_44 : decode cX8_parts 44 = .ok (.iadd, 1) := by decide +kernel
theorem dX8_parts_45 : decode cX8_parts 45 = .ok (.istore 6, 2) := by decide +kernel
theorem dX8_parts_47 : decode cX8_parts 47 = .ok (.iload 5, 2) := by decide +kernel
theorem dX8_parts_49 : decode cX8_parts 49 = .ok (.istore 7, 2) := by decide +kernel
theorem dX8_parts_51 : decode cX8_parts 51 = .ok (.iload 6, 2) := by decide +kernel
theorem dX8_parts_53 : decode cX8_parts 53 = .ok (.iload_n 3, 1) := by decide +kernel
theorem dX8_parts_54 : decode cX8_parts 54 = .ok (.if_icmp .ge 78, 3) := by decide +kernel
theorem dX8_parts_57 : decode cX8_parts 57 = .ok (.aload_n 0, 1) := by decide +kernel
theorem dX8_parts_58 : decode cX8_parts 58 = .ok (.getfield 53, 3) := by decide +kernel
theorem dX8_parts_61 : decode cX8_parts 61 = .ok (.sipush 200, 3) := by decide +kernel
theorem dX8_parts_64 : decode cX8_parts 64 = .ok (.iload_n 1, 1) := by decide +kernel
theorem dX8_parts_65 : decode cX8_parts 65 = .ok (.imul, 1) := by decide +kernel
theorem dX8_parts_66 : decode cX8_parts 66 = .ok (.iload 7, 2) := by decide +kernel
theorem dX8_parts_68 : decode cX8_parts 68 = .ok (.iadd, 1) := by decide +kernel
theorem dX8_parts_69 : decode cX8_parts 69 = .ok (.iaload, 1) := by decide +kernel
theorem dX8_parts_70 : decode cX8_parts 70 = .ok (.aload_n 0, 1) := by decide +kernel
theorem dX8_parts_71 : decode cX8_parts 71 = .ok (.getfield 53, 3) := by decide +kernel
theorem dX8_parts_74 : decode cX8_parts 74 = .ok (.sipush 200, 3) := by decide +kernel
theorem dX8_parts_77 : decode cX8_parts 77 = .ok (.iload_n 1, 1) := by decide +kernel
theorem dX8_parts_78 : decode cX8_parts 78 = .ok (.imul, 1) := by decide +kernel
theorem dX8_parts_79 : decode cX8_parts 79 = .ok (.iload 6, 2) := by decide +kernel
theorem dX8_parts_81 : decode cX8_parts 81 = .ok (.iadd, 1) := by decide +kernel
theorem dX8_parts_82 : decode cX8_parts 82 = .ok (.iaload, 1) := by decide +kernel
theorem dX8_parts_83 : decode cX8_parts 83 = .ok (.if_icmp .gt 49, 3) := by decide +kernel
theorem dX8_parts_86 : decode cX8_parts 86 = .ok (.aload_n 0, 1) := by decide +kernel
theorem dX8_parts_87 : decode cX8_parts 87 = .ok (.getfield 53, 3) := by decide +kernel
theorem dX8_parts_90 : decode cX8_parts 90 = .ok (.sipush 200, 3) := by decide +kernel
theorem dX8_parts_93 : decode cX8_parts 93 = .ok (.iload_n 1, 1) := by decide +kernel
theorem dX8_parts_94 : decode cX8_parts 94 = .ok (.imul, 1) := by decide +kernel
theorem dX8_parts_95 : decode cX8_parts 95 = .ok (.iload 7, 2) := by decide +kernel
theorem dX8_parts_97 : decode cX8_parts 97 = .ok (.iadd, 1) := by decide +kernel
theorem dX8_parts_98 : decode cX8_parts 98 = .ok (.iaload, 1) := by decide +kernel
theorem dX8_parts_99 : decode cX8_parts 99 = .ok (.aload_n 0, 1) := by decide +kernel
theorem dX8_parts_100 : decode cX8_parts 100 = .ok (.getfield 53, 3) := by decide +kernel
theorem dX8_parts_103 : decode cX8_parts 103 = .ok (.sipush 200, 3) := by decide +kernel
theorem dX8_parts_106 : decode cX8_parts 106 = .ok (.iload_n 1, 1) := by decide +kernel
theorem dX8_parts_107 : decode cX8_parts 107 = .ok (.imul, 1) := by decide +kernel
theorem dX8_parts_108 : decode cX8_parts 108 = .ok (.iload 6, 2) := by decide +kernel
theorem dX8_parts_110 : decode cX8_parts 110 = .ok (.iadd, 1) := by decide +kernel
theorem dX8_parts_111 : decode cX8_parts 111 = .ok (.iaload, 1) := by decide +kernel
theorem dX8_parts_112 : decode cX8_parts 112 = .ok (.if_icmp .ge 8, 3) := by decide +kernel
theorem dX8_parts_115 : decode cX8_parts 115 = .ok (.iload 5, 2) := by decide +kernel
theorem dX8_parts_117 : decode cX8_parts 117 = .ok (.goto 7, 3) := by decide +kernel
theorem dX8_parts_120 : decode cX8_parts 120 = .ok (.iload 7, 2) := by decide +kernel
theorem dX8_parts_122 : decode cX8_parts 122 = .ok (.iconst 1, 1) := by decide +kernel
theorem dX8_parts_123 : decode cX8_parts 123 = .ok (.iadd, 1) := by decide +kernel
theorem dX8_parts_124 : decode cX8_parts 124 = .ok (.istore 7, 2) := by decide +kernel
theorem dX8_parts_126 : decode cX8_parts 126 = .ok (.iinc 6 1, 3) := by decide +kernel
theorem dX8_parts_129 : decode cX8_parts 129 = .ok (.goto (-78), 3) := by decide +kernel
theorem dX8_parts_132 : decode cX8_parts 132 = .ok (.iload 5, 2) := by decide +kernel
theorem dX8_parts_134 : decode cX8_parts 134 = .ok (.iload 7, 2) := by decide +kernel
theorem dX8_parts_136 : decode cX8_parts 136 = .ok (.if_icmp .gt 28, 3) := by decide +kernel
theorem dX8_parts_139 : decode cX8_parts 139 = .ok (.aload_n 0, 1) := by decide +kernel
theorem dX8_parts_140 : decode cX8_parts 140 = .ok (.getfield 59, 3) := by decide +kernel
theorem dX8_parts_143 : decode cX8_parts 143 = .ok (.iload 4, 2) := by decide +kernel
theorem dX8_parts_145 : decode cX8_parts 145 = .ok (.iload 5, 2) := by decide +kernel
theorem dX8_parts_147 : decode cX8_parts 147 = .ok (.iastore, 1) := by decide +kernel
theorem dX8_parts_148 : decode cX8_parts 148 = .ok (.iinc 4 1, 3) := by decide +kernel
theorem dX8_parts_151 : decode cX8_parts 151 = .ok (.iload 5, 2) := by decide +kernel
theorem dX8_parts_153 : decode cX8_parts 153 = .ok (.iload 6, 2) := by decide +kernel
theorem dX8_parts_155 : decode cX8_parts 155 = .ok (.iload 7, 2) := by decide +kernel
theorem dX8_parts_157 : decode cX8_parts 157 = .ok (.isub, 1) := by decide +kernel
theorem dX8_parts_158 : decode cX8_parts 158 = .ok (.iadd, 1) := by decide +kernel
theorem dX8_parts_159 : decode cX8_parts 159 = .ok (.istore 5, 2) := by decide +kernel
theorem dX8_parts_161 : decode cX8_parts 161 = .ok (.goto (-29), 3) := by decide +kernel
theorem dX8_parts_164 : decode cX8_parts 164 = .ok (.goto (-129), 3) := by decide +kernel
theorem dX8_parts_167 : decode cX8_parts 167 = .ok (.aload_n 0, 1) := by decide +kernel
theorem dX8_parts_168 : decode cX8_parts 168 = .ok (.iload 4, 2) := by decide +kernel
theorem dX8_parts_170 : decode cX8_parts 170 = .ok (.ifCond .le 8, 3) := by decide +kernel
theorem dX8_parts_173 : decode cX8_parts 173 = .ok (.iload 4, 2) := by decide +kernel
theorem dX8_parts_175 : decode cX8_parts 175 = .ok (.goto 7, 3) := by decide +kernel
theorem dX8_parts_178 : decode cX8_parts 178 = .ok (.aload_n 0, 1) := by decide +kernel
theorem dX8_parts_179 : decode cX8_parts 179 = .ok (.getfield 189, 3) := by decide +kernel
theorem dX8_parts_182 : decode cX8_parts 182 = .ok (.putfield 189, 3) := by decide +kernel
theorem dX8_parts_185 : decode cX8_parts 185 = .ok (.iload 4, 2) := by decide +kernel
theorem dX8_parts_187 : decode cX8_parts 187 = .ok (.ireturn, 1) := by decide +kernel
theorem dX8_part_0 : decode cX8_part 0 = .ok (.iload_n 1, 1) := by decide +kernel
theorem dX8_part_1 : decode cX8_part 1 = .ok (.i2l, 1) := by decide +kernel
theorem dX8_part_2 : decode cX8_part 2 = .ok (.lconst 0, 1) := by decide +kernel
theorem dX8_part_3 : decode cX8_part 3 = .ok (.aload_n 0, 1) := by decide +kernel
theorem dX8_part_4 : decode cX8_part 4 = .ok (.getfield 189, 3) := by decide +kernel
theorem dX8_part_7 : decode cX8_part 7 = .ok (.iconst 1, 1) := by decide +kernel
theorem dX8_part_8 : decode cX8_part 8 = .ok (.isub, 1) := by decide +kernel
theorem dX8_part_9 : decode cX8_part 9 = .ok (.i2l, 1) := by decide +kernel
theorem dX8_part_10 : decode cX8_part 10 = .ok (.invokestatic 86, 3) := by decide +kernel
theorem dX8_part_13 : decode cX8_part 13 = .ok (.ifCond .eq 12, 3) := by decide +kernel
theorem dX8_part_16 : decode cX8_part 16 = .ok (.aload_n 0, 1) := by decide +kernel
theorem dX8_part_17 : decode cX8_part 17 = .ok (.getfield 59, 3) := by decide +kernel
theorem dX8_part_20 : decode cX8_part 20 = .ok (.iload_n 1, 1) := by decide +kernel
theorem dX8_part_21 : decode cX8_part 21 = .ok (.iaload, 1) := by decide +kernel
theorem dX8_part_22 : decode cX8_part 22 = .ok (.goto 5, 3) := by decide +kernel
theorem dX8_part_25 : decode cX8_part 25 = .ok (.bipush (-2), 2) := by decide +kernel
theorem dX8_part_27 : decode cX8_part 27 = .ok (.ireturn, 1) := by decide +kernel
theorem dX8_inverse_0 : decode cX8_inverse 0 = .ok (.iconst 1, 1) := by decide +kernel
theorem dX8_inverse_1 : decode cX8_inverse 1 = .ok (.istore_n 2, 1) := by decide +kernel
theorem dX8_inverse_2 : decode cX8_inverse 2 = .ok (.iload_n 2, 1) := by decide +kernel
theorem dX8_inverse_3 : decode cX8_inverse 3 = .ok (.iload_n 1, 1) := by decide +kernel
theorem dX8_inverse_4 : decode cX8_inverse 4 = .ok (.imul, 1) := by decide +kernel
theorem dX8_inverse_5 : decode cX8_inverse 5 = .ok (.aload_n 0, 1) := by decide +kernel
theorem dX8_inverse_6 : decode cX8_inverse 6 = .ok (.getfield 92, 3) := by decide +kernel
theorem dX8_inverse_9 : decode cX8_inverse 9 = .ok (.irem, 1) := by decide +kernel
theorem dX8_inverse_10 : decode cX8_inverse 10 = .ok (.iconst 1, 1) := by decide +kernel
theorem dX8_inverse_11 : decode cX8_inverse 11 = .ok (.if_icmp .eq 9, 3) := by decide +kernel
theorem dX8_inverse_14 : decode cX8_inverse 14 = .ok (.iinc 2 1, 3) := by decide +kernel
theorem dX8_inverse_17 : decode cX8_inverse 17 = .ok (.goto (-15), 3) := by decide +kernel
theorem dX8_inverse_20 : decode cX8_inverse 20 = .ok (.iload_n 2, 1) := by decide +kernel
theorem dX8_inverse_21 : decode cX8_inverse 21 = .ok (.ireturn, 1) := by decide +kernel
theorem dX8_leastLength_0 : decode cX8_leastLength 0 = .ok (.aload_n 0, 1) := by decide +kernel
theorem dX8_leastLength_1 : decode cX8_leastLength 1 = .ok (.getfield 50, 3) := by decide +kernel
theorem dX8_leastLength_4 : decode cX8_leastLength 4 = .ok (.iload_n 1, 1) := by decide +kernel
theorem dX8_leastLength_5 : decode cX8_leastLength 5 = .ok (.iaload, 1) := by decide +kernel
theorem dX8_leastLength_6 : decode cX8_leastLength 6 = .ok (.istore_n 2, 1) := by decide +kernel
theorem dX8_leastLength_7 : decode cX8_leastLength 7 = .ok (.iconst 0, 1) := by decide +kernel
theorem dX8_leastLength_8 : decode cX8_leastLength 8 = .ok (.istore_n 3, 1) := by decide +kernel
theorem dX8_leastLength_9 : decode cX8_leastLength 9 = .ok (.iload_n 3, 1) := by decide +kernel
theorem dX8_leastLength_10 : decode cX8_leastLength 10 = .ok (.sipush 202, 3) := by decide +kernel
theorem dX8_leastLength_13 : decode cX8_leastLength 13 = .ok (.if_icmp .ge 39, 3) := by decide +kernel
theorem dX8_leastLength_16 : decode cX8_leastLength 16 = .ok (.aload_n 0, 1) := by decide +kernel
theorem dX8_leastLength_17 : decode cX8_leastLength 17 = .ok (.getfield 65, 3) := by decide +kernel
theorem dX8_leastLength_20 : decode cX8_leastLength 20 = .ok (.iload_n 3, 1) := by decide +kernel
theorem dX8_leastLength_21 : decode cX8_leastLength 21 = .ok (.iload_n 3, 1) := by decide +kernel
theorem dX8_leastLength_22 : decode cX8_leastLength 22 = .ok (.ifCond .ne 7, 3) := by decide +kernel
theorem dX8_leastLength_25 : decode cX8_leastLength 25 = .ok (.iconst 1, 1) := by decide +kernel
theorem dX8_leastLength_26 : decode cX8_leastLength 26 = .ok (.goto 4, 3) := by decide +kernel
theorem dX8_leastLength_29 : decode cX8_leastLength 29 = .ok (.iconst 0, 1) := by decide +kernel
theorem dX8_leastLength_30 : decode cX8_leastLength 30 = .ok (.iastore, 1) := by decide +kernel
theorem dX8_leastLength_31 : decode cX8_leastLength 31 = .ok (.aload_n 0, 1) := by decide +kernel
theorem dX8_leastLength_32 : decode cX8_leastLength 32 = .ok (.getfield 68, 3) := by decide +kernel
theorem dX8_leastLength_35 : decode cX8_leastLength 35 = .ok (.iload_n 3, 1) := by decide +kernel
theorem dX8_leastLength_36 : decode cX8_leastLength 36 = .ok (.iload_n 3, 1) := by decide +kernel
theorem dX8_leastLength_37 : decode cX8_leastLength 37 = .ok (.ifCond .ne 7, 3) := by decide +kernel
theorem dX8_leastLength_40 : decode cX8_leastLength 40 = .ok (.iconst 1, 1) := by decide +kernel
theorem dX8_leastLength_41 : decode cX8_leastLength 41 = .ok (.goto 4, 3) := by decide +kernel
theorem dX8_leastLength_44 : decode cX8_leastLength 44 = .ok (.iconst 0, 1) := by decide +kernel
theorem dX8_leastLength_45 : decode cX8_leastLength 45 = .ok (.iastore, 1) := by decide +kernel
theorem dX8_leastLength_46 : decode cX8_leastLength 46 = .ok (.iinc 3 1, 3) := by decide +kernel
theorem dX8_leastLength_49 : decode cX8_leastLength 49 = .ok (.goto (-40), 3) := by decide +kernel
theorem dX8_leastLength_52 : decode cX8_leastLength 52 = .ok (.iconst 0, 1) := by decide +kernel
theorem dX8_leastLength_53 : decode cX8_leastLength 53 = .ok (.istore_n 3, 1) := by decide +kernel
theorem dX8_leastLength_54 : decode cX8_leastLength 54 = .ok (.iconst 1, 1) := by decide +kernel
theorem dX8_leastLength_55 : decode cX8_leastLength 55 = .ok (.istore 4, 2) := by decide +kernel
theorem dX8_leastLength_57 : decode cX8_leastLength 57 = .ok (.iconst 1, 1) := by decide +kernel
theorem dX8_leastLength_58 : decode cX8_leastLength 58 = .ok (.istore 5, 2) := by decide +kernel
theorem dX8_leastLength_60 : decode cX8_leastLength 60 = .ok (.iconst 0, 1) := by decide +kernel
theorem dX8_leastLength_61 : decode cX8_leastLength 61 = .ok (.istore 6, 2) := by decide +kernel
theorem dX8_leastLength_63 : decode cX8_leastLength 63 = .ok (.iload 6, 2) := by decide +kernel
theorem dX8_leastLength_65 : decode cX8_leastLength 65 = .ok (.iload_n 2, 1) := by decide +kernel
theorem dX8_leastLength_66 : decode cX8_leastLength 66 = .ok (.if_icmp .ge 239, 3) := by decide +kernel
theorem dX8_leastLength_69 : decode cX8_leastLength 69 = .ok (.iconst 0, 1) := by decide +kernel
theorem dX8_leastLength_70 : decode cX8_leastLength 70 = .ok (.istore 7, 2) := by decide +kernel
theorem dX8_leastLength_72 : decode cX8_leastLength 72 = .ok (.iconst 0, 1) := by decide +kernel
theorem dX8_leastLength_73 : decode cX8_leastLength 73 = .ok (.istore 8, 2) := by decide +kernel
theorem dX8_leastLength_75 : decode cX8_leastLength 75 = .ok (.iload 8, 2) := by decide +kernel
theorem dX8_leastLength_77 : decode cX8_leastLength 77 = .ok (.iload_n 3, 1) := by decide +kernel
theorem dX8_leastLength_78 : decode cX8_leastLength 78 = .ok (.if_icmp .gt 43, 3) := by decide +kernel
theorem dX8_leastLength_81 : decode cX8_leastLength 81 = .ok (.iload 7, 2) := by decide +kernel
theorem dX8_leastLength_83 : decode cX8_leastLength 83 = .ok (.aload_n 0, 1) := by decide +kernel
theorem dX8_leastLength_84 : decode cX8_leastLength 84 = .ok (.getfield 65, 3) := by decide +kernel
theorem dX8_leastLength_87 : decode cX8_leastLength 87 = .ok (.iload 8, 2) := by decide +kernel
theorem dX8_leastLength_89 : decode cX8_leastLength 89 = .ok (.iaload, 1) := by decide +kernel
theorem dX8_leastLength_90 : decode cX8_leastLength 90 = .ok (.aload_n 0, 1) := by decide +kernel
theorem dX8_leastLength_91 : decode cX8_leastLength 91 = .ok (.getfield 53, 3) := by decide +kernel
theorem dX8_leastLength_94 : decode cX8_leastLength 94 = .ok (.sipush 200, 3) := by decide +kernel
theorem dX8_leastLength_97 : decode cX8_leastLength 97 = .ok (.iload_n 1, 1) := by decide +kernel
theorem dX8_leastLength_98 : decode cX8_leastLength 98 = .ok (.imul, 1) := by decide +kernel
theorem dX8_leastLength_99 : decode cX8_leastLength 99 = .ok (.iload 6, 2) := by decide +kernel
theorem dX8_leastLength_101 : decode cX8_leastLength 101 = .ok (.iadd, 1) := by decide +kernel
theorem dX8_leastLength_102 : decode cX8_leastLength 102 = .ok (.iload 8, 2) := by decide +kernel
theorem dX8_leastLength_104 : decode cX8_leastLength 104 = .ok (.isub, 1) := by decide +kernel
theorem dX8_leastLength_105 : decode cX8_leastLength 105 = .ok (.iaload, 1) := by decide +kernel
theorem dX8_leastLength_106 : decode cX8_leastLength 106 = .ok (.imul, 1) := by decide +kernel
theorem dX8_leastLength_107 : decode cX8_leastLength 107 = .ok (.iadd, 1) := by decide +kernel
theorem dX8_leastLength_108 : decode cX8_leastLength 108 = .ok (.aload_n 0, 1) := by decide +kernel
theorem dX8_leastLength_109 : decode cX8_leastLength 109 = .ok (.getfield 92, 3) := by decide +kernel
theorem dX8_leastLength_112 : decode cX8_leastLength 112 = .ok (.irem, 1) := by decide +kernel
theorem dX8_leastLength_113 : decode cX8_leastLength 113 = .ok (.istore 7, 2) := by decide +kernel
theorem dX8_leastLength_115 : decode cX8_leastLength 115 = .ok (.iinc 8 1, 3) := by decide +kernel
theorem dX8_leastLength_118 : decode cX8_leastLength 118 = .ok (.goto (-43), 3) := by decide +kernel
theorem dX8_leastLength_121 : decode cX8_leastLength 121 = .ok (.iload 7, 2) := by decide +kernel
theorem dX8_leastLength_123 : decode cX8_leastLength 123 = .ok (.ifCond .ne 9, 3) := by decide +kernel
theorem dX8_leastLength_126 : decode cX8_leastLength 126 = .ok (.iinc 4 1, 3) := by decide +kernel
theorem dX8_leastLength_129 : decode cX8_leastLength 129 = .ok (.goto 170, 3) := by decide +kernel
theorem dX8_leastLength_132 : decode cX8_leastLength 132 = .ok (.iconst 0, 1) := by decide +kernel
theorem dX8_leastLength_133 : decode cX8_leastLength 133 = .ok (.istore 8, 2) := by decide +kernel
theorem dX8_leastLength_135 : decode cX8_leastLength 135 = .ok (.iload 8, 2) := by decide +kernel
theorem dX8_leastLength_137 : decode cX8_leastLength 137 = .ok (.sipush 202, 3) := by decide +kernel
theorem dX8_leastLength_140 : decode cX8_leastLength 140 = .ok (.if_icmp .ge 23, 3) := by decide +kernel
theorem dX8_leastLength_143 : decode cX8_leastLength 143 = .ok (.aload_n 0, 1) := by decide +kernel
theorem dX8_leastLength_144 : decode cX8_leastLength 144 = .ok (.getfield 71, 3) := by decide +kernel
theorem dX8_leastLength_147 : decode cX8_leastLength 147 = .ok (.iload 8, 2) := by decide +kernel
theorem dX8_leastLength_149 : decode cX8_leastLength 149 = .ok (.aload_n 0, 1) := by decide +kernel
theorem dX8_leastLength_150 : decode cX8_leastLength 150 = .ok (.getfield 65, 3) := by decide +kernel
theorem dX8_leastLength_153 : decode cX8_leastLength 153 = .ok (.iload 8, 2) := by decide +kernel
theorem dX8_leastLength_155 : decode cX8_leastLength 155 = .ok (.iaload, 1) := by decide +kernel
theorem dX8_leastLength_156 : decode cX8_leastLength 156 = .ok (.iastore, 1) := by decide +kernel
theorem dX8_leastLength_157 : decode cX8_leastLength 157 = .ok (.iinc 8 1, 3) := by decide +kernel
theorem dX8_leastLength_160 : decode cX8_leastLength 160 = .ok (.goto (-25), 3) := by decide +kernel
theorem dX8_leastLength_163 : decode cX8_leastLength 163 = .ok (.iload 7, 2) := by decide +kernel
theorem dX8_leastLength_165 : decode cX8_leastLength 165 = .ok (.aload_n 0, 1) := by decide +kernel
theorem dX8_leastLength_166 : decode cX8_leastLength 166 = .ok (.iload 5, 2) := by decide +kernel
theorem dX8_leastLength_168 : decode cX8_leastLength 168 = .ok (.invokevirtual 192, 3) := by decide +kernel
theorem dX8_leastLength_171 : decode cX8_leastLength 171 = .ok (.imul, 1) := by decide +kernel
theorem dX8_leastLength_172 : decode cX8_leastLength 172 = .ok (.aload_n 0, 1) := by decide +kernel
theorem dX8_leastLength_173 : decode cX8_leastLength 173 = .ok (.getfield 92, 3) := by decide +kernel
theorem dX8_leastLength_176 : decode cX8_leastLength 176 = .ok (.irem, 1) := by decide +kernel
theorem dX8_leastLength_177 : decode cX8_leastLength 177 = .ok (.istore 8, 2) := by decide +kernel
theorem dX8_leastLength_179 : decode cX8_leastLength 179 = .ok (.iconst 0, 1) := by decide +kernel
theorem dX8_leastLength_180 : decode cX8_leastLength 180 = .ok (.istore 9, 2) := by decide +kernel
theorem dX8_leastLength_182 : decode cX8_leastLength 182 = .ok (.iload 9, 2) := by decide +kernel
theorem dX8_leastLength_184 : decode cX8_leastLength 184 = .ok (.iload 4, 2) := by decide +kernel
theorem dX8_leastLength_186 : decode cX8_leastLength 186 = .ok (.iadd, 1) := by decide +kernel
theorem dX8_leastLength_187 : decode cX8_leastLength 187 = .ok (.sipush 202, 3) := by decide +kernel
theorem dX8_leastLength_190 : decode cX8_leastLength 190 = .ok (.if_icmp .ge 50, 3) := by decide +kernel
theorem dX8_leastLength_193 : decode cX8_leastLength 193 = .ok (.aload_n 0, 1) := by decide +kernel
theorem dX8_leastLength_194 : decode cX8_leastLength 194 = .ok (.getfield 65, 3) := by decide +kernel
theorem dX8_leastLength_197 : decode cX8_leastLength 197 = .ok (.iload 9, 2) := by decide +kernel
theorem dX8_leastLength_199 : decode cX8_leastLength 199 = .ok (.iload 4, 2) := by decide +kernel
theorem dX8_leastLength_201 : decode cX8_leastLength 201 = .ok (.iadd, 1) := by decide +kernel
theorem dX8_leastLength_202 : decode cX8_leastLength 202 = .ok (.aload_n 0, 1) := by decide +kernel
theorem dX8_leastLength_203 : decode cX8_leastLength 203 = .ok (.getfield 65, 3) := by decide +kernel
theorem dX8_leastLength_206 : decode cX8_leastLength 206 = .ok (.iload 9, 2) := by decide +kernel
theorem dX8_leastLength_208 : decode cX8_leastLength 208 = .ok (.iload 4, 2) := by decide +kernel
theorem dX8_leastLength_210 : decode cX8_leastLength 210 = .ok (.iadd, 1) := by decide +kernel
theorem dX8_leastLength_211 : decode cX8_leastLength 211 = .ok (.iaload, 1) := by decide +kernel
theorem dX8_leastLength_212 : decode cX8_leastLength 212 = .ok (.aload_n 0, 1) := by decide +kernel
theorem dX8_leastLength_213 : decode cX8_leastLength 213 = .ok (.getfield 92, 3) := by decide +kernel
theorem dX8_leastLength_216 : decode cX8_leastLength 216 = .ok (.iload 8, 2) := by decide +kernel
theorem dX8_leastLength_218 : decode cX8_leastLength 218 = .ok (.isub, 1) := by decide +kernel
theorem dX8_leastLength_219 : decode cX8_leastLength 219 = .ok (.aload_n 0, 1) := by decide +kernel
theorem dX8_leastLength_220 : decode cX8_leastLength 220 = .ok (.getfield 68, 3) := by decide +kernel
theorem dX8_leastLength_223 : decode cX8_leastLength 223 = .ok (.iload 9, 2) := by decide +kernel
theorem dX8_leastLength_225 : decode cX8_leastLength 225 = .ok (.iaload, 1) := by decide +kernel
theorem dX8_leastLength_226 : decode cX8_leastLength 226 = .ok (.imul, 1) := by decide +kernel
theorem dX8_leastLength_227 : decode cX8_leastLength 227 = .ok (.iadd, 1) := by decide +kernel
theorem dX8_leastLength_228 : decode cX8_leastLength 228 = .ok (.aload_n 0, 1) := by decide +kernel
theorem dX8_leastLength_229 : decode cX8_leastLength 229 = .ok (.getfield 92, 3) := by decide +kernel
theorem dX8_leastLength_232 : decode cX8_leastLength 232 = .ok (.irem, 1) := by decide +kernel
theorem dX8_leastLength_233 : decode cX8_leastLength 233 = .ok (.iastore, 1) := by decide +kernel
theorem dX8_leastLength_234 : decode cX8_leastLength 234 = .ok (.iinc 9 1, 3) := by decide +kernel
theorem dX8_leastLength_237 : decode cX8_leastLength 237 = .ok (.goto (-55), 3) := by decide +kernel
theorem dX8_leastLength_240 : decode cX8_leastLength 240 = .ok (.iconst 2, 1) := by decide +kernel
theorem dX8_leastLength_241 : decode cX8_leastLength 241 = .ok (.iload_n 3, 1) := by decide +kernel
theorem dX8_leastLength_242 : decode cX8_leastLength 242 = .ok (.imul, 1) := by decide +kernel
theorem dX8_leastLength_243 : decode cX8_leastLength 243 = .ok (.iload 6, 2) := by decide +kernel
theorem dX8_leastLength_245 : decode cX8_leastLength 245 = .ok (.if_icmp .gt 51, 3) := by decide +kernel
theorem dX8_leastLength_248 : decode cX8_leastLength 248 = .ok (.iload 6, 2) := by decide +kernel
theorem dX8_leastLength_250 : decode cX8_leastLength 250 = .ok (.iconst 1, 1) := by decide +kernel
theorem dX8_leastLength_251 : decode cX8_leastLength 251 = .ok (.iadd, 1) := by decide +kernel
theorem dX8_leastLength_252 : decode cX8_leastLength 252 = .ok (.iload_n 3, 1) := by decide +kernel
theorem dX8_leastLength_253 : decode cX8_leastLength 253 = .ok (.isub, 1) := by decide +kernel
theorem dX8_leastLength_254 : decode cX8_leastLength 254 = .ok (.istore_n 3, 1) := by decide +kernel
theorem dX8_leastLength_255 : decode cX8_leastLength 255 = .ok (.iconst 0, 1) := by decide +kernel
theorem dX8_leastLength_256 : decode cX8_leastLength 256 = .ok (.istore 9, 2) := by decide +kernel
theorem dX8_leastLength_258 : decode cX8_leastLength 258 = .ok (.iload 9, 2) := by decide +kernel
theorem dX8_leastLength_260 : decode cX8_leastLength 260 = .ok (.sipush 202, 3) := by decide +kernel
theorem dX8_leastLength_263 : decode cX8_leastLength 263 = .ok (.if_icmp .ge 23, 3) := by decide +kernel
theorem dX8_leastLength_266 : decode cX8_leastLength 266 = .ok (.aload_n 0, 1) := by decide +kernel
theorem dX8_leastLength_267 : decode cX8_leastLength 267 = .ok (.getfield 68, 3) := by decide +kernel
theorem dX8_leastLength_270 : decode cX8_leastLength 270 = .ok (.iload 9, 2) := by decide +kernel
theorem dX8_leastLength_272 : decode cX8_leastLength 272 = .ok (.aload_n 0, 1) := by decide +kernel
theorem dX8_leastLength_273 : decode cX8_leastLength 273 = .ok (.getfield 71, 3) := by decide +kernel
theorem dX8_leastLength_276 : decode cX8_leastLength 276 = .ok (.iload 9, 2) := by decide +kernel
theorem dX8_leastLength_278 : decode cX8_leastLength 278 = .ok (.iaload, 1) := by decide +kernel
theorem dX8_leastLength_279 : decode cX8_leastLength 279 = .ok (.iastore, 1) := by decide +kernel
theorem dX8_leastLength_280 : decode cX8_leastLength 280 = .ok (.iinc 9 1, 3) := by decide +kernel
theorem dX8_leastLength_283 : decode cX8_leastLength 283 = .ok (.goto (-25), 3) := by decide +kernel
theorem dX8_leastLength_286 : decode cX8_leastLength 286 = .ok (.iload 7, 2) := by decide +kernel
theorem dX8_leastLength_288 : decode cX8_leastLength 288 = .ok (.istore 5, 2) := by decide +kernel
theorem dX8_leastLength_290 : decode cX8_leastLength 290 = .ok (.iconst 1, 1) := by decide +kernel
theorem dX8_leastLength_291 : decode cX8_leastLength 291 = .ok (.istore 4, 2) := by decide +kernel
theorem dX8_leastLength_293 : decode cX8_leastLength 293 = .ok (.goto 6, 3) := by decide +kernel
theorem dX8_leastLength_296 : decode cX8_leastLength 296 = .ok (.iinc 4 1, 3) := by decide +kernel
theorem dX8_leastLength_299 : decode cX8_leastLength 299 = .ok (.iinc 6 1, 3) := by decide +kernel
theorem dX8_leastLength_302 : decode cX8_leastLength 302 = .ok (.goto (-239), 3) := by decide +kernel
theorem dX8_leastLength_305 : decode cX8_leastLength 305 = .ok (.iload_n 3, 1) := by decide +kernel
theorem dX8_leastLength_306 : decode cX8_leastLength 306 = .ok (.ireturn, 1) := by decide +kernel
theorem dX8_solve_0 : decode cX8_solve 0 = .ok (.aload_n 0, 1) := by decide +kernel
theorem dX8_solve_1 : decode cX8_solve 1 = .ok (.getfield 50, 3) := by decide +kernel
theorem dX8_solve_4 : decode cX8_solve 4 = .ok (.iload_n 1, 1) := by decide +kernel
theorem dX8_solve_5 : decode cX8_solve 5 = .ok (.iaload, 1) := by decide +kernel
theorem dX8_solve_6 : decode cX8_solve 6 = .ok (.istore_n 3, 1) := by decide +kernel
theorem dX8_solve_7 : decode cX8_solve 7 = .ok (.iload_n 3, 1) := by decide +kernel
theorem dX8_solve_8 : decode cX8_solve 8 = .ok (.iload_n 2, 1) := by decide +kernel
theorem dX8_solve_9 : decode cX8_solve 9 = .ok (.isub, 1) := by decide +kernel
theorem dX8_solve_10 : decode cX8_solve 10 = .ok (.istore 4, 2) := by decide +kernel
theorem dX8_solve_12 : decode cX8_solve 12 = .ok (.iload_n 2, 1) := by decide +kernel
theorem dX8_solve_13 : decode cX8_solve 13 = .ok (.iconst 1, 1) := by decide +kernel
theorem dX8_solve_14 : decode cX8_solve 14 = .ok (.iadd, 1) := by decide +kernel
theorem dX8_solve_15 : decode cX8_solve 15 = .ok (.istore 5, 2) := by decide +kernel
theorem dX8_solve_17 : decode cX8_solve 17 = .ok (.iconst 0, 1) := by decide +kernel
theorem dX8_solve_18 : decode cX8_solve 18 = .ok (.istore 6, 2) := by decide +kernel
theorem dX8_solve_20 : decode cX8_solve 20 = .ok (.iload 6, 2) := by decide +kernel
theorem dX8_solve_22 : decode cX8_solve 22 = .ok (.iload 4, 2) := by decide +kernel
theorem dX8_solve_24 : decode cX8_solve 24 = .ok (.if_icmp .ge 84, 3) := by decide +kernel
theorem dX8_solve_27 : decode cX8_solve 27 = .ok (.iconst 1, 1) := by decide +kernel
theorem dX8_solve_28 : decode cX8_solve 28 = .ok (.istore 7, 2) := by decide +kernel
theorem dX8_solve_30 : decode cX8_solve 30 = .ok (.iload 7, 2) := by decide +kernel
theorem dX8_solve_32 : decode cX8_solve 32 = .ok (.iload_n 2, 1) := by decide +kernel
theorem dX8_solve_33 : decode cX8_solve 33 = .ok (.if_icmp .gt 42, 3) := by decide +kernel
theorem dX8_solve_36 : decode cX8_solve 36 = .ok (.aload_n 0, 1) := by decide +kernel
theorem dX8_solve_37 : decode cX8_solve 37 = .ok (.getfield 75, 3) := by decide +kernel
theorem dX8_solve_40 : decode cX8_solve 40 = .ok (.iload 6, 2) := by decide +kernel
theorem dX8_solve_42 : decode cX8_solve 42 = .ok (.iload 5, 2) := by decide +kernel
theorem dX8_solve_44 : decode cX8_solve 44 = .ok (.imul, 1) := by decide +kernel
theorem dX8_solve_45 : decode cX8_solve 45 = .ok (.iload 7, 2) := by decide +kernel
theorem dX8_solve_47 : decode cX8_solve 47 = .ok (.iadd, 1) := by decide +kernel
theorem dX8_solve_48 : decode cX8_solve 48 = .ok (.iconst 1, 1) := by decide +kernel
theorem dX8_solve_49 : decode cX8_solve 49 = .ok (.isub, 1) := by decide +kernel
theorem dX8_solve_50 : decode cX8_solve 50 = .ok (.aload_n 0, 1) := by decide +kernel
theorem dX8_solve_51 : decode cX8_solve 51 = .ok (.getfield 53, 3) := by decide +kernel
theorem dX8_solve_54 : decode cX8_solve 54 = .ok (.sipush 200, 3) := by decide +kernel
theorem dX8_solve_57 : decode cX8_solve 57 = .ok (.iload_n 1, 1) := by decide +kernel
theorem dX8_solve_58 : decode cX8_solve 58 = .ok (.imul, 1) := by decide +kernel
theorem dX8_solve_59 : decode cX8_solve 59 = .ok (.iload_n 2, 1) := by decide +kernel
theorem dX8_solve_60 : decode cX8_solve 60 = .ok (.iadd, 1) := by decide +kernel
theorem dX8_solve_61 : decode cX8_solve 61 = .ok (.iload 6, 2) := by decide +kernel
theorem dX8_solve_63 : decode cX8_solve 63 = .ok (.iadd, 1) := by decide +kernel
theorem dX8_solve_64 : decode cX8_solve 64 = .ok (.iload 7, 2) := by decide +kernel
theorem dX8_solve_66 : decode cX8_solve 66 = .ok (.isub, 1) := by decide +kernel
theorem dX8_solve_67 : decode cX8_solve 67 = .ok (.iaload, 1) := by decide +kernel
theorem dX8_solve_68 : decode cX8_solve 68 = .ok (.iastore, 1) := by decide +kernel
theorem dX8_solve_69 : decode cX8_solve 69 = .ok (.iinc 7 1, 3) := by decide +kernel
theorem dX8_solve_72 : decode cX8_solve 72 = .ok (.goto (-42), 3) := by decide +kernel
theorem dX8_solve_75 : decode cX8_solve 75 = .ok (.aload_n 0, 1) := by decide +kernel
theorem dX8_solve_76 : decode cX8_solve 76 = .ok (.getfield 75, 3) := by decide +kernel
theorem dX8_solve_79 : decode cX8_solve 79 = .ok (.iload 6, 2) := by decide +kernel
theorem dX8_solve_81 : decode cX8_solve 81 = .ok (.iload 5, 2) := by decide +kernel
theorem dX8_solve_83 : decode cX8_solve 83 = .ok (.imul, 1) := by decide +kernel
theorem dX8_solve_84 : decode cX8_solve 84 = .ok (.iload_n 2, 1) := by decide +kernel
theorem dX8_solve_85 : decode cX8_solve 85 = .ok (.iadd, 1) := by decide +kernel
theorem dX8_solve_86 : decode cX8_solve 86 = .ok (.aload_n 0, 1) := by decide +kernel
theorem dX8_solve_87 : decode cX8_solve 87 = .ok (.getfield 53, 3) := by decide +kernel
theorem dX8_solve_90 : decode cX8_solve 90 = .ok (.sipush 200, 3) := by decide +kernel
theorem dX8_solve_93 : decode cX8_solve 93 = .ok (.iload_n 1, 1) := by decide +kernel
theorem dX8_solve_94 : decode cX8_solve 94 = .ok (.imul, 1) := by decide +kernel
theorem dX8_solve_95 : decode cX8_solve 95 = .ok (.iload_n 2, 1) := by decide +kernel
theorem dX8_solve_96 : decode cX8_solve 96 = .ok (.iadd, 1) := by decide +kernel
theorem dX8_solve_97 : decode cX8_solve 97 = .ok (.iload 6, 2) := by decide +kernel
theorem dX8_solve_99 : decode cX8_solve 99 = .ok (.iadd, 1) := by decide +kernel
theorem dX8_solve_100 : decode cX8_solve 100 = .ok (.iaload, 1) := by decide +kernel
theorem dX8_solve_101 : decode cX8_solve 101 = .ok (.iastore, 1) := by decide +kernel
theorem dX8_solve_102 : decode cX8_solve 102 = .ok (.iinc 6 1, 3) := by decide +kernel
theorem dX8_solve_105 : decode cX8_solve 105 = .ok (.goto (-85), 3) := by decide +kernel
theorem dX8_solve_108 : decode cX8_solve 108 = .ok (.iconst 0, 1) := by decide +kernel
theorem dX8_solve_109 : decode cX8_solve 109 = .ok (.istore 6, 2) := by decide +kernel
theorem dX8_solve_111 : decode cX8_solve 111 = .ok (.iload 6, 2) := by decide +kernel
theorem dX8_solve_113 : decode cX8_solve 113 = .ok (.iload_n 2, 1) := by decide +kernel
theorem dX8_solve_114 : decode cX8_solve 114 = .ok (.if_icmp .gt 25, 3) := by decide +kernel
theorem dX8_solve_117 : decode cX8_solve 117 = .ok (.aload_n 0, 1) := by decide +kernel
theorem dX8_solve_118 : decode cX8_solve 118 = .ok (.getfield 62, 3) := by decide +kernel
theorem dX8_solve_121 : decode cX8_solve 121 = .ok (.iload 6, 2) := by decide +kernel
theorem dX8_solve_123 : decode cX8_solve 123 = .ok (.iconst 0, 1) := by decide +kernel
theorem dX8_solve_124 : decode cX8_solve 124 = .ok (.iastore, 1) := by decide +kernel
theorem dX8_solve_125 : decode cX8_solve 125 = .ok (.aload_n 0, 1) := by decide +kernel
theorem dX8_solve_126 : decode cX8_solve 126 = .ok (.getfield 71, 3) := by decide +kernel
theorem dX8_solve_129 : decode cX8_solve 129 = .ok (.iload 6, 2) := by decide +kernel
theorem dX8_solve_131 : decode cX8_solve 131 = .ok (.iconst (-1), 1) := by decide +kernel
theorem dX8_solve_132 : decode cX8_solve 132 = .ok (.iastore, 1) := by decide +kernel
theorem dX8_solve_133 : decode cX8_solve 133 = .ok (.iinc 6 1, 3) := by decide +kernel
theorem dX8_solve_136 : decode cX8_solve 136 = .ok (.goto (-25), 3) := by decide +kernel
theorem dX8_solve_139 : decode cX8_solve 139 = .ok (.iconst 0, 1) := by decide +kernel
theorem dX8_solve_140 : decode cX8_solve 140 = .ok (.istore 6, 2) := by decide +kernel
theorem dX8_solve_142 : decode cX8_solve 142 = .ok (.iload_n 2, 1) := by decide +kernel
theorem dX8_solve_143 : decode cX8_solve 143 = .ok (.iconst 1, 1) := by decide +kernel
theorem dX8_solve_144 : decode cX8_solve 144 = .ok (.isub, 1) := by decide +kernel
theorem dX8_solve_145 : decode cX8_solve 145 = .ok (.istore 7, 2) := by decide +kernel
theorem dX8_solve_147 : decode cX8_solve 147 = .ok (.iload 7, 2) := by decide +kernel
theorem dX8_solve_149 : decode cX8_solve 149 = .ok (.ifCond .lt 281, 3) := by decide +kernel
theorem dX8_solve_152 : decode cX8_solve 152 = .ok (.iload 6, 2) := by decide +kernel
theorem dX8_solve_154 : decode cX8_solve 154 = .ok (.istore 8, 2) := by decide +kernel
theorem dX8_solve_156 : decode cX8_solve 156 = .ok (.iload 8, 2) := by decide +kernel
theorem dX8_solve_158 : decode cX8_solve 158 = .ok (.iload 4, 2) := by decide +kernel
theorem dX8_solve_160 : decode cX8_solve 160 = .ok (.if_icmp .ge 25, 3) := by decide +kernel
theorem dX8_solve_163 : decode cX8_solve 163 = .ok (.aload_n 0, 1) := by decide +kernel
theorem dX8_solve_164 : decode cX8_solve 164 = .ok (.getfield 75, 3) := by decide +kernel
theorem dX8_solve_167 : decode cX8_solve 167 = .ok (.iload 8, 2) := by decide +kernel
theorem dX8_solve_169 : decode cX8_solve 169 = .ok (.iload 5, 2) := by decide +kernel
theorem dX8_solve_171 : decode cX8_solve 171 = .ok (.imul, 1) := by decide +kernel
theorem dX8_solve_172 : decode cX8_solve 172 = .ok (.iload 7, 2) := by decide +kernel
theorem dX8_solve_174 : decode cX8_solve 174 = .ok (.iadd, 1) := by decide +kernel
theorem dX8_solve_175 : decode cX8_solve 175 = .ok (.iaload, 1) := by decide +kernel
theorem dX8_solve_176 : decode cX8_solve 176 = .ok (.ifCond .ne 9, 3) := by decide +kernel
theorem dX8_solve_179 : decode cX8_solve 179 = .ok (.iinc 8 1, 3) := by decide +kernel
theorem dX8_solve_182 : decode cX8_solve 182 = .ok (.goto (-26), 3) := by decide +kernel
theorem dX8_solve_185 : decode cX8_solve 185 = .ok (.iload 8, 2) := by decide +kernel
theorem dX8_solve_187 : decode cX8_solve 187 = .ok (.iload 4, 2) := by decide +kernel
theorem dX8_solve_189 : decode cX8_solve 189 = .ok (.if_icmp .ge 235, 3) := by decide +kernel
theorem dX8_solve_192 : decode cX8_solve 192 = .ok (.aload_n 0, 1) := by decide +kernel
theorem dX8_solve_193 : decode cX8_solve 193 = .ok (.aload_n 0, 1) := by decide +kernel
theorem dX8_solve_194 : decode cX8_solve 194 = .ok (.getfield 75, 3) := by decide +kernel
theorem dX8_solve_197 : decode cX8_solve 197 = .ok (.iload 8, 2) := by decide +kernel
theorem dX8_solve_199 : decode cX8_solve 199 = .ok (.iload 5, 2) := by decide +kernel
theorem dX8_solve_201 : decode cX8_solve 201 = .ok (.imul, 1) := by decide +kernel
theorem dX8_solve_202 : decode cX8_solve 202 = .ok (.iload 7, 2) := by decide +kernel
theorem dX8_solve_204 : decode cX8_solve 204 = .ok (.iadd, 1) := by decide +kernel
theorem dX8_solve_205 : decode cX8_solve 205 = .ok (.iaload, 1) := by decide +kernel
theorem dX8_solve_206 : decode cX8_solve 206 = .ok (.invokevirtual 192, 3) := by decide +kernel
theorem dX8_solve_209 : decode cX8_solve 209 = .ok (.istore 9, 2) := by decide +kernel
theorem dX8_solve_211 : decode cX8_solve 211 = .ok (.iconst 0, 1) := by decide +kernel
theorem dX8_solve_212 : decode cX8_solve 212 = .ok (.istore 10, 2) := by decide +kernel
theorem dX8_solve_214 : decode cX8_solve 214 = .ok (.iload 10, 2) := by decide +kernel
theorem dX8_solve_216 : decode cX8_solve 216 = .ok (.iload 5, 2) := by decide +kernel
theorem dX8_solve_218 : decode cX8_solve 218 = .ok (.if_icmp .ge 73, 3) := by decide +kernel
theorem dX8_solve_221 : decode cX8_solve 221 = .ok (.aload_n 0, 1) := by decide +kernel
theorem dX8_solve_222 : decode cX8_solve 222 = .ok (.getfield 75, 3) := by decide +kernel
theorem dX8_solve_225 : decode cX8_solve 225 = .ok (.iload 8, 2) := by decide +kernel
theorem dX8_solve_227 : decode cX8_solve 227 = .ok (.iload 5, 2) := by decide +kernel
theorem dX8_solve_229 : decode cX8_solve 229 = .ok (.imul, 1) := by decide +kernel
theorem dX8_solve_230 : decode cX8_solve 230 = .ok (.iload 10, 2) := by decide +kernel
theorem dX8_solve_232 : decode cX8_solve 232 = .ok (.iadd, 1) := by decide +kernel
theorem dX8_solve_233 : decode cX8_solve 233 = .ok (.iaload, 1) := by decide +kernel
theorem dX8_solve_234 : decode cX8_solve 234 = .ok (.iload 9, 2) := by decide +kernel
theorem dX8_solve_236 : decode cX8_solve 236 = .ok (.imul, 1) := by decide +kernel
theorem dX8_solve_237 : decode cX8_solve 237 = .ok (.aload_n 0, 1) := by decide +kernel
theorem dX8_solve_238 : decode cX8_solve 238 = .ok (.getfield 92, 3) := by decide +kernel
theorem dX8_solve_241 : decode cX8_solve 241 = .ok (.irem, 1) := by decide +kernel
theorem dX8_solve_242 : decode cX8_solve 242 = .ok (.istore 11, 2) := by decide +kernel
theorem dX8_solve_244 : decode cX8_solve 244 = .ok (.aload_n 0, 1) := by decide +kernel
theorem dX8_solve_245 : decode cX8_solve 245 = .ok (.getfield 75, 3) := by decide +kernel
theorem dX8_solve_248 : decode cX8_solve 248 = .ok (.iload 8, 2) := by decide +kernel
theorem dX8_solve_250 : decode cX8_solve 250 = .ok (.iload 5, 2) := by decide +kernel
theorem dX8_solve_252 : decode cX8_solve 252 = .ok (.imul, 1) := by decide +kernel
theorem dX8_solve_253 : decode cX8_solve 253 = .ok (.iload 10, 2) := by decide +kernel
theorem dX8_solve_255 : decode cX8_solve 255 = .ok (.iadd, 1) := by decide +kernel
theorem dX8_solve_256 : decode cX8_solve 256 = .ok (.aload_n 0, 1) := by decide +kernel
theorem dX8_solve_257 : decode cX8_solve 257 = .ok (.getfield 75, 3) := by decide +kernel
theorem dX8_solve_260 : decode cX8_solve 260 = .ok (.iload 6, 2) := by decide +kernel
theorem dX8_solve_262 : decode cX8_solve 262 = .ok (.iload 5, 2) := by decide +kernel
theorem dX8_solve_264 : decode cX8_solve 264 = .ok (.imul, 1) := by decide +kernel
theorem dX8_solve_265 : decode cX8_solve 265 = .ok (.iload 10, 2) := by decide +kernel
theorem dX8_solve_267 : decode cX8_solve 267 = .ok (.iadd, 1) := by decide +kernel
theorem dX8_solve_268 : decode cX8_solve 268 = .ok (.iaload, 1) := by decide +kernel
theorem dX8_solve_269 : decode cX8_solve 269 = .ok (.iastore, 1) := by decide +kernel
theorem dX8_solve_270 : decode cX8_solve 270 = .ok (.aload_n 0, 1) := by decide +kernel
theorem dX8_solve_271 : decode cX8_solve 271 = .ok (.getfield 75, 3) := by decide +kernel
theorem dX8_solve_274 : decode cX8_solve 274 = .ok (.iload 6, 2) := by decide +kernel
theorem dX8_solve_276 : decode cX8_solve 276 = .ok (.iload 5, 2) := by decide +kernel
theorem dX8_solve_278 : decode cX8_solve 278 = .ok (.imul, 1) := by decide +kernel
theorem dX8_solve_279 : decode cX8_solve 279 = .ok (.iload 10, 2) := by decide +kernel
theorem dX8_solve_281 : decode cX8_solve 281 = .ok (.iadd, 1) := by decide +kernel
theorem dX8_solve_282 : decode cX8_solve 282 = .ok (.iload 11, 2) := by decide +kernel
theorem dX8_solve_284 : decode cX8_solve 284 = .ok (.iastore, 1) := by decide +kernel
theorem dX8_solve_285 : decode cX8_solve 285 = .ok (.iinc 10 1, 3) := by decide +kernel
theorem dX8_solve_288 : decode cX8_solve 288 = .ok (.goto (-74), 3) := by decide +kernel
theorem dX8_solve_291 : decode cX8_solve 291 = .ok (.iconst 0, 1) := by decide +kernel
theorem dX8_solve_292 : decode cX8_solve 292 = .ok (.istore 10, 2) := by decide +kernel
theorem dX8_solve_294 : decode cX8_solve 294 = .ok (.iload 10, 2) := by decide +kernel
theorem dX8_solve_296 : decode cX8_solve 296 = .ok (.iload 4, 2) := by decide +kernel
theorem dX8_solve_298 : decode cX8_solve 298 = .ok (.if_icmp .ge 114, 3) := by decide +kernel
theorem dX8_solve_301 : decode cX8_solve 301 = .ok (.iload 10, 2) := by decide +kernel
theorem dX8_solve_303 : decode cX8_solve 303 = .ok (.iload 6, 2) := by decide +kernel
theorem dX8_solve_305 : decode cX8_solve 305 = .ok (.if_icmp .ne 7, 3) := by decide +kernel
theorem dX8_solve_308 : decode cX8_solve 308 = .ok (.iconst 0, 1) := by decide +kernel
theorem dX8_solve_309 : decode cX8_solve 309 = .ok (.goto 21, 3) := by decide +kernel
theorem dX8_solve_312 : decode cX8_solve 312 = .ok (.aload_n 0, 1) := by decide +kernel
theorem dX8_solve_313 : decode cX8_solve 313 = .ok (.getfield 92, 3) := by decide +kernel
theorem dX8_solve_316 : decode cX8_solve 316 = .ok (.aload_n 0, 1) := by decide +kernel
theorem dX8_solve_317 : decode cX8_solve 317 = .ok (.getfield 75, 3) := by decide +kernel
theorem dX8_solve_320 : decode cX8_solve 320 = .ok (.iload 10, 2) := by decide +kernel
theorem dX8_solve_322 : decode cX8_solve 322 = .ok (.iload 5, 2) := by decide +kernel
theorem dX8_solve_324 : decode cX8_solve 324 = .ok (.imul, 1) := by decide +kernel
theorem dX8_solve_325 : decode cX8_solve 325 = .ok (.iload 7, 2) := by decide +kernel
theorem dX8_solve_327 : decode cX8_solve 327 = .ok (.iadd, 1) := by decide +kernel
theorem dX8_solve_328 : decode cX8_solve 328 = .ok (.iaload, 1) := by decide +kernel
theorem dX8_solve_329 : decode cX8_solve 329 = .ok (.isub, 1) := by decide +kernel
theorem dX8_solve_330 : decode cX8_solve 330 = .ok (.istore 11, 2) := by decide +kernel
theorem dX8_solve_332 : decode cX8_solve 332 = .ok (.iconst 0, 1) := by decide +kernel
theorem dX8_solve_333 : decode cX8_solve 333 = .ok (.istore 12, 2) := by decide +kernel
theorem dX8_solve_335 : decode cX8_solve 335 = .ok (.iload 12, 2) := by decide +kernel
theorem dX8_solve_337 : decode cX8_solve 337 = .ok (.iload 5, 2) := by decide +kernel
theorem dX8_solve_339 : decode cX8_solve 339 = .ok (.if_icmp .ge 67, 3) := by decide +kernel
theorem dX8_solve_342 : decode cX8_solve 342 = .ok (.iload 11, 2) := by decide +kernel
theorem dX8_solve_344 : decode cX8_solve 344 = .ok (.aload_n 0, 1) := by decide +kernel
theorem dX8_solve_345 : decode cX8_solve 345 = .ok (.getfield 92, 3) := by decide +kernel
theorem dX8_solve_348 : decode cX8_solve 348 = .ok (.irem, 1) := by decide +kernel
theorem dX8_solve_349 : decode cX8_solve 349 = .ok (.ifCond .eq 57, 3) := by decide +kernel
theorem dX8_solve_352 : decode cX8_solve 352 = .ok (.aload_n 0, 1) := by decide +kernel
theorem dX8_solve_353 : decode cX8_solve 353 = .ok (.getfield 75, 3) := by decide +kernel
theorem dX8_solve_356 : decode cX8_solve 356 = .ok (.iload 10, 2) := by decide +kernel
theorem dX8_solve_358 : decode cX8_solve 358 = .ok (.iload 5, 2) := by decide +kernel
theorem dX8_solve_360 : decode cX8_solve 360 = .ok (.imul, 1) := by decide +kernel
theorem dX8_solve_361 : decode cX8_solve 361 = .ok (.iload 12, 2) := by decide +kernel
theorem dX8_solve_363 : decode cX8_solve 363 = .ok (.iadd, 1) := by decide +kernel
theorem dX8_solve_364 : decode cX8_solve 364 = .ok (.aload_n 0, 1) := by decide +kernel
theorem dX8_solve_365 : decode cX8_solve 365 = .ok (.getfield 75, 3) := by decide +kernel
theorem dX8_solve_368 : decode cX8_solve 368 = .ok (.iload 10, 2) := by decide +kernel
theorem dX8_solve_370 : decode cX8_solve 370 = .ok (.iload 5, 2) := by decide +kernel
theorem dX8_solve_372 : decode cX8_solve 372 = .ok (.imul, 1) := by decide +kernel
theorem dX8_solve_373 : decode cX8_solve 373 = .ok (.iload 12, 2) := by decide +kernel
theorem dX8_solve_375 : decode cX8_solve 375 = .ok (.iadd, 1) := by decide +kernel
theorem dX8_solve_376 : decode cX8_solve 376 = .ok (.iaload, 1) := by decide +kernel
theorem dX8_solve_377 : decode cX8_solve 377 = .ok (.iload 11, 2) := by decide +kernel
theorem dX8_solve_379 : decode cX8_solve 379 = .ok (.aload_n 0, 1) := by decide +kernel
theorem dX8_solve_380 : decode cX8_solve 380 = .ok (.getfield 75, 3) := by decide +kernel
theorem dX8_solve_383 : decode cX8_solve 383 = .ok (.iload 6, 2) := by decide +kernel
theorem dX8_solve_385 : decode cX8_solve 385 = .ok (.iload 5, 2) := by decide +kernel
theorem dX8_solve_387 : decode cX8_solve 387 = .ok (.imul, 1) := by decide +kernel
theorem dX8_solve_388 : decode cX8_solve 388 = .ok (.iload 12, 2) := by decide +kernel
theorem dX8_solve_390 : decode cX8_solve 390 = .ok (.iadd, 1) := by decide +kernel
theorem dX8_solve_391 : decode cX8_solve 391 = .ok (.iaload, 1) := by decide +kernel
theorem dX8_solve_392 : decode cX8_solve 392 = .ok (.imul, 1) := by decide +kernel
theorem dX8_solve_393 : decode cX8_solve 393 = .ok (.iadd, 1) := by decide +kernel
theorem dX8_solve_394 : decode cX8_solve 394 = .ok (.aload_n 0, 1) := by decide +kernel
theorem dX8_solve_395 : decode cX8_solve 395 = .ok (.getfield 92, 3) := by decide +kernel
theorem dX8_solve_398 : decode cX8_solve 398 = .ok (.irem, 1) := by decide +kernel
theorem dX8_solve_399 : decode cX8_solve 399 = .ok (.iastore, 1) := by decide +kernel
theorem dX8_solve_400 : decode cX8_solve 400 = .ok (.iinc 12 1, 3) := by decide +kernel
theorem dX8_solve_403 : decode cX8_solve 403 = .ok (.goto (-68), 3) := by decide +kernel
theorem dX8_solve_406 : decode cX8_solve 406 = .ok (.iinc 10 1, 3) := by decide +kernel
theorem dX8_solve_409 : decode cX8_solve 409 = .ok (.goto (-115), 3) := by decide +kernel
theorem dX8_solve_412 : decode cX8_solve 412 = .ok (.aload_n 0, 1) := by decide +kernel
theorem dX8_solve_413 : decode cX8_solve 413 = .ok (.getfield 71, 3) := by decide +kernel
theorem dX8_solve_416 : decode cX8_solve 416 = .ok (.iload 7, 2) := by decide +kernel
theorem dX8_solve_418 : decode cX8_solve 418 = .ok (.iload 6, 2) := by decide +kernel
theorem dX8_solve_420 : decode cX8_solve 420 = .ok (.iastore, 1) := by decide +kernel
theorem dX8_solve_421 : decode cX8_solve 421 = .ok (.iinc 6 1, 3) := by decide +kernel
theorem dX8_solve_424 : decode cX8_solve 424 = .ok (.iinc 7 (-1), 3) := by decide +kernel
theorem dX8_solve_427 : decode cX8_solve 427 = .ok (.goto (-280), 3) := by decide +kernel
theorem dX8_solve_430 : decode cX8_solve 430 = .ok (.iconst 0, 1) := by decide +kernel
theorem dX8_solve_431 : decode cX8_solve 431 = .ok (.istore 7, 2) := by decide +kernel
theorem dX8_solve_433 : decode cX8_solve 433 = .ok (.iload 7, 2) := by decide +kernel
theorem dX8_solve_435 : decode cX8_solve 435 = .ok (.iload_n 2, 1) := by decide +kernel
theorem dX8_solve_436 : decode cX8_solve 436 = .ok (.if_icmp .ge 50, 3) := by decide +kernel
theorem dX8_solve_439 : decode cX8_solve 439 = .ok (.aload_n 0, 1) := by decide +kernel
theorem dX8_solve_440 : decode cX8_solve 440 = .ok (.getfield 62, 3) := by decide +kernel
theorem dX8_solve_443 : decode cX8_solve 443 = .ok (.iload 7, 2) := by decide +kernel
theorem dX8_solve_445 : decode cX8_solve 445 = .ok (.iconst 1, 1) := by decide +kernel
theorem dX8_solve_446 : decode cX8_solve 446 = .ok (.iadd, 1) := by decide +kernel
theorem dX8_solve_447 : decode cX8_solve 447 = .ok (.aload_n 0, 1) := by decide +kernel
theorem dX8_solve_448 : decode cX8_solve 448 = .ok (.getfield 71, 3) := by decide +kernel
theorem dX8_solve_451 : decode cX8_solve 451 = .ok (.iload 7, 2) := by decide +kernel
theorem dX8_solve_453 : decode cX8_solve 453 = .ok (.iaload, 1) := by decide +kernel
theorem dX8_solve_454 : decode cX8_solve 454 = .ok (.iconst (-1), 1) := by decide +kernel
theorem dX8_solve_455 : decode cX8_solve 455 = .ok (.if_icmp .ne 7, 3) := by decide +kernel
theorem dX8_solve_458 : decode cX8_solve 458 = .ok (.iconst 0, 1) := by decide +kernel
theorem dX8_solve_459 : decode cX8_solve 459 = .ok (.goto 20, 3) := by decide +kernel
theorem dX8_solve_462 : decode cX8_solve 462 = .ok (.aload_n 0, 1) := by decide +kernel
theorem dX8_solve_463 : decode cX8_solve 463 = .ok (.getfield 75, 3) := by decide +kernel
theorem dX8_solve_466 : decode cX8_solve 466 = .ok (.aload_n 0, 1) := by decide +kernel
theorem dX8_solve_467 : decode cX8_solve 467 = .ok (.getfield 71, 3) := by decide +kernel
theorem dX8_solve_470 : decode cX8_solve 470 = .ok (.iload 7, 2) := by decide +kernel
theorem dX8_solve_472 : decode cX8_solve 472 = .ok (.iaload, 1) := by decide +kernel
theorem dX8_solve_473 : decode cX8_solve 473 = .ok (.iload 5, 2) := by decide +kernel
theorem dX8_solve_475 : decode cX8_solve 475 = .ok (.imul, 1) := by decide +kernel
theorem dX8_solve_476 : decode cX8_solve 476 = .ok (.iload_n 2, 1) := by decide +kernel
theorem dX8_solve_477 : decode cX8_solve 477 = .ok (.iadd, 1) := by decide +kernel
theorem dX8_solve_478 : decode cX8_solve 478 = .ok (.iaload, 1) := by decide +kernel
theorem dX8_solve_479 : decode cX8_solve 479 = .ok (.iastore, 1) := by decide +kernel
theorem dX8_solve_480 : decode cX8_solve 480 = .ok (.iinc 7 1, 3) := by decide +kernel
theorem dX8_solve_483 : decode cX8_solve 483 = .ok (.goto (-50), 3) := by decide +kernel
theorem dX8_solve_486 : decode cX8_solve 486 = .ok (.return_, 1) := by decide +kernel
theorem dX8_recurrence_0 : decode cX8_recurrence 0 = .ok (.iload_n 1, 1) := by decide +kernel
theorem dX8_recurrence_1 : decode cX8_recurrence 1 = .ok (.invokestatic 168, 3) := by decide +kernel
theorem dX8_recurrence_4 : decode cX8_recurrence 4 = .ok (.ifCond .ne 6, 3) := by decide +kernel
theorem dX8_recurrence_7 : decode cX8_recurrence 7 = .ok (.bipush (-2), 2) := by decide +kernel
theorem dX8_recurrence_9 : decode cX8_recurrence 9 = .ok (.ireturn, 1) := by decide +kernel
theorem dX8_recurrence_10 : decode cX8_recurrence 10 = .ok (.aload_n 0, 1) := by decide +kernel
theorem dX8_recurrence_11 : decode cX8_recurrence 11 = .ok (.getfield 47, 3) := by decide +kernel
theorem dX8_recurrence_14 : decode cX8_recurrence 14 = .ok (.iload_n 1, 1) := by decide +kernel
theorem dX8_recurrence_15 : decode cX8_recurrence 15 = .ok (.iaload, 1) := by decide +kernel
theorem dX8_recurrence_16 : decode cX8_recurrence 16 = .ok (.ifCond .ge 9, 3) := by decide +kernel
theorem dX8_recurrence_19 : decode cX8_recurrence 19 = .ok (.aload_n 0, 1) := by decide +kernel
theorem dX8_recurrence_20 : decode cX8_recurrence 20 = .ok (.iconst 1, 1) := by decide +kernel
theorem dX8_recurrence_21 : decode cX8_recurrence 21 = .ok (.invokevirtual 171, 3) := by decide +kernel
theorem dX8_recurrence_24 : decode cX8_recurrence 24 = .ok (.ireturn, 1) := by decide +kernel
theorem dX8_recurrence_25 : decode cX8_recurrence 25 = .ok (.aload_n 0, 1) := by decide +kernel
theorem dX8_recurrence_26 : decode cX8_recurrence 26 = .ok (.getfield 92, 3) := by decide +kernel
theorem dX8_recurrence_29 : decode cX8_recurrence 29 = .ok (.iconst 4, 1) := by decide +kernel
theorem dX8_recurrence_30 : decode cX8_recurrence 30 = .ok (.if_icmp .eq 11, 3) := by decide +kernel
theorem dX8_recurrence_33 : decode cX8_recurrence 33 = .ok (.aload_n 0, 1) := by decide +kernel
theorem dX8_recurrence_34 : decode cX8_recurrence 34 = .ok (.iload_n 1, 1) := by decide +kernel
theorem dX8_recurrence_35 : decode cX8_recurrence 35 = .ok (.invokevirtual 186, 3) := by decide +kernel
theorem dX8_recurrence_38 : decode cX8_recurrence 38 = .ok (.ifCond .eq 6, 3) := by decide +kernel
theorem dX8_recurrence_41 : decode cX8_recurrence 41 = .ok (.bipush (-3), 2) := by decide +kernel
theorem dX8_recurrence_43 : decode cX8_recurrence 43 = .ok (.ireturn, 1) := by decide +kernel
theorem dX8_recurrence_44 : decode cX8_recurrence 44 = .ok (.aload_n 0, 1) := by decide +kernel
theorem dX8_recurrence_45 : decode cX8_recurrence 45 = .ok (.aload_n 0, 1) := by decide +kernel
theorem dX8_recurrence_46 : decode cX8_recurrence 46 = .ok (.iload_n 1, 1) := by decide +kernel
theorem dX8_recurrence_47 : decode cX8_recurrence 47 = .ok (.invokevirtual 195, 3) := by decide +kernel
theorem dX8_recurrence_50 : decode cX8_recurrence 50 = .ok (.putfield 198, 3) := by decide +kernel
theorem dX8_recurrence_53 : decode cX8_recurrence 53 = .ok (.aload_n 0, 1) := by decide +kernel
theorem dX8_recurrence_54 : decode cX8_recurrence 54 = .ok (.iload_n 1, 1) := by decide +kernel
theorem dX8_recurrence_55 : decode cX8_recurrence 55 = .ok (.aload_n 0, 1) := by decide +kernel
theorem dX8_recurrence_56 : decode cX8_recurrence 56 = .ok (.getfield 198, 3) := by decide +kernel
theorem dX8_recurrence_59 : decode cX8_recurrence 59 = .ok (.invokevirtual 201, 3) := by decide +kernel
theorem dX8_recurrence_62 : decode cX8_recurrence 62 = .ok (.aload_n 0, 1) := by decide +kernel
theorem dX8_recurrence_63 : decode cX8_recurrence 63 = .ok (.getfield 198, 3) := by decide +kernel
theorem dX8_recurrence_66 : decode cX8_recurrence 66 = .ok (.ireturn, 1) := by decide +kernel
theorem dX8_coefficient_0 : decode cX8_coefficient 0 = .ok (.iload_n 1, 1) := by decide +kernel
theorem dX8_coefficient_1 : decode cX8_coefficient 1 = .ok (.i2l, 1) := by decide +kernel
theorem dX8_coefficient_2 : decode cX8_coefficient 2 = .ok (.lconst 1, 1) := by decide +kernel
theorem dX8_coefficient_3 : decode cX8_coefficient 3 = .ok (.aload_n 0, 1) := by decide +kernel
theorem dX8_coefficient_4 : decode cX8_coefficient 4 = .ok (.getfield 198, 3) := by decide +kernel
theorem dX8_coefficient_7 : decode cX8_coefficient 7 = .ok (.i2l, 1) := by decide +kernel
theorem dX8_coefficient_8 : decode cX8_coefficient 8 = .ok (.invokestatic 86, 3) := by decide +kernel
theorem dX8_coefficient_11 : decode cX8_coefficient 11 = .ok (.ifCond .eq 12, 3) := by decide +kernel
theorem dX8_coefficient_14 : decode cX8_coefficient 14 = .ok (.aload_n 0, 1) := by decide +kernel
theorem dX8_coefficient_15 : decode cX8_coefficient 15 = .ok (.getfield 62, 3) := by decide +kernel
theorem dX8_coefficient_18 : decode cX8_coefficient 18 = .ok (.iload_n 1, 1) := by decide +kernel
theorem dX8_coefficient_19 : decode cX8_coefficient 19 = .ok (.iaload, 1) := by decide +kernel
theorem dX8_coefficient_20 : decode cX8_coefficient 20 = .ok (.goto 5, 3) := by decide +kernel
theorem dX8_coefficient_23 : decode cX8_coefficient 23 = .ok (.bipush (-2), 2) := by decide +kernel
theorem dX8_coefficient_25 : decode cX8_coefficient 25 = .ok (.ireturn, 1) := by decide +kernel
theorem dX8_count_0 : decode cX8_count 0 = .ok (.iload_n 1, 1) := by decide +kernel
theorem dX8_count_1 : decode cX8_count 1 = .ok (.tableswitch 69 0 5 #[39, 44, 49, 54, 59, 64], 39) := by decide +kernel
theorem dX8_count_40 : decode cX8_count 40 = .ok (.aload_n 0, 1) := by decide +kernel
theorem dX8_count_41 : decode cX8_count 41 = .ok (.getfield 92, 3) := by decide +kernel
theorem dX8_count_44 : decode cX8_count 44 = .ok (.ireturn, 1) := by decide +kernel
theorem dX8_count_45 : decode cX8_count 45 = .ok (.aload_n 0, 1) := by decide +kernel
theorem dX8_count_46 : decode cX8_count 46 = .ok (.getfield 96, 3) := by decide +kernel
theorem dX8_count_49 : decode cX8_count 49 = .ok (.ireturn, 1) := by decide +kernel
theorem dX8_count_50 : decode cX8_count 50 = .ok (.aload_n 0, 1) := by decide +kernel
theorem dX8_count_51 : decode cX8_count 51 = .ok (.getfield 99, 3) := by decide +kernel
theorem dX8_count_54 : decode cX8_count 54 = .ok (.ireturn, 1) := by decide +kernel
theorem dX8_count_55 : decode cX8_count 55 = .ok (.aload_n 0, 1) := by decide +kernel
theorem dX8_count_56 : decode cX8_count 56 = .ok (.getfield 133, 3) := by decide +kernel
theorem dX8_count_59 : decode cX8_count 59 = .ok (.ireturn, 1) := by decide +kernel
theorem dX8_count_60 : decode cX8_count 60 = .ok (.aload_n 0, 1) := by decide +kernel
theorem dX8_count_61 : decode cX8_count 61 = .ok (.getfield 112, 3) := by decide +kernel
theorem dX8_count_64 : decode cX8_count 64 = .ok (.ireturn, 1) := by decide +kernel
theorem dX8_count_65 : decode cX8_count 65 = .ok (.aload_n 0, 1) := by decide +kernel
theorem dX8_count_66 : decode cX8_count 66 = .ok (.getfield 163, 3) := by decide +kernel
theorem dX8_count_69 : decode cX8_count 69 = .ok (.ireturn, 1) := by decide +kernel
theorem dX8_count_70 : decode cX8_count 70 = .ok (.bipush (-2), 2) := by decide +kernel
theorem dX8_count_72 : decode cX8_count 72 = .ok (.ireturn, 1) := by decide +kernel
theorem dX8_digest_0 : decode cX8_digest 0 = .ok (.ldc2_w 204, 3) := by decide +kernel
theorem dX8_digest_3 : decode cX8_digest 3 = .ok (.lstore_n 1, 1) := by decide +kernel
theorem dX8_digest_4 : decode cX8_digest 4 = .ok (.iconst 0, 1) := by decide +kernel
theorem dX8_digest_5 : decode cX8_digest 5 = .ok (.istore_n 3, 1) := by decide +kernel
theorem dX8_digest_6 : decode cX8_digest 6 = .ok (.iload_n 3, 1) := by decide +kernel
theorem dX8_digest_7 : decode cX8_digest 7 = .ok (.iconst 5, 1) := by decide +kernel
theorem dX8_digest_8 : decode cX8_digest 8 = .ok (.if_icmp .ge 22, 3) := by decide +kernel
theorem dX8_digest_11 : decode cX8_digest 11 = .ok (.ldc2_w 206, 3) := by decide +kernel
theorem dX8_digest_14 : decode cX8_digest 14 = .ok (.lload_n 1, 1) := by decide +kernel
theorem dX8_digest_15 : decode cX8_digest 15 = .ok (.lmul, 1) := by decide +kernel
theorem dX8_digest_16 : decode cX8_digest 16 = .ok (.aload_n 0, 1) := by decide +kernel
theorem dX8_digest_17 : decode cX8_digest 17 = .ok (.iload_n 3, 1) := by decide +kernel
theorem dX8_digest_18 : decode cX8_digest 18 = .ok (.invokevirtual 208, 3) := by decide +kernel
theorem dX8_digest_21 : decode cX8_digest 21 = .ok (.i2l, 1) := by decide +kernel
theorem dX8_digest_22 : decode cX8_digest 22 = .ok (.ladd, 1) := by decide +kernel
theorem dX8_digest_23 : decode cX8_digest 23 = .ok (.lstore_n 1, 1) := by decide +kernel
theorem dX8_digest_24 : decode cX8_digest 24 = .ok (.iinc 3 1, 3) := by decide +kernel
theorem dX8_digest_27 : decode cX8_digest 27 = .ok (.goto (-21), 3) := by decide +kernel
theorem dX8_digest_30 : decode cX8_digest 30 = .ok (.iconst 0, 1) := by decide +kernel
theorem dX8_digest_31 : decode cX8_digest 31 = .ok (.istore_n 3, 1) := by decide +kernel
theorem dX8_digest_32 : decode cX8_digest 32 = .ok (.iload_n 3, 1) := by decide +kernel
theorem dX8_digest_33 : decode cX8_digest 33 = .ok (.aload_n 0, 1) := by decide +kernel
theorem dX8_digest_34 : decode cX8_digest 34 = .ok (.getfield 99, 3) := by decide +kernel
theorem dX8_digest_37 : decode cX8_digest 37 = .ok (.if_icmp .ge 23, 3) := by decide +kernel
theorem dX8_digest_40 : decode cX8_digest 40 = .ok (.ldc2_w 206, 3) := by decide +kernel
theorem dX8_digest_43 : decode cX8_digest 43 = .ok (.lload_n 1, 1) := by decide +kernel
theorem dX8_digest_44 : decode cX8_digest 44 = .ok (.lmul, 1) := by decide +kernel
theorem dX8_digest_45 : decode cX8_digest 45 = .ok (.aload_n 0, 1) := by decide +kernel
theorem dX8_digest_46 : decode cX8_digest 46 = .ok (.getfield 22, 3) := by decide +kernel
theorem dX8_digest_49 : decode cX8_digest 49 = .ok (.iload_n 3, 1) := by decide +kernel
theorem dX8_digest_50 : decode cX8_digest 50 = .ok (.iaload, 1) := by decide +kernel
theorem dX8_digest_51 : decode cX8_digest 51 = .ok (.i2l, 1) := by decide +kernel
theorem dX8_digest_52 : decode cX8_digest 52 = .ok (.ladd, 1) := by decide +kernel
theorem dX8_digest_53 : decode cX8_digest 53 = .ok (.lstore_n 1, 1) := by decide +kernel
theorem dX8_digest_54 : decode cX8_digest 54 = .ok (.iinc 3 1, 3) := by decide +kernel
theorem dX8_digest_57 : decode cX8_digest 57 = .ok (.goto (-25), 3) := by decide +kernel
theorem dX8_digest_60 : decode cX8_digest 60 = .ok (.iconst 0, 1) := by decide +kernel
theorem dX8_digest_61 : decode cX8_digest 61 = .ok (.istore_n 3, 1) := by decide +kernel
theorem dX8_digest_62 : decode cX8_digest 62 = .ok (.iload_n 3, 1) := by decide +kernel
theorem dX8_digest_63 : decode cX8_digest 63 = .ok (.aload_n 0, 1) := by decide +kernel
theorem dX8_digest_64 : decode cX8_digest 64 = .ok (.getfield 99, 3) := by decide +kernel
theorem dX8_digest_67 : decode cX8_digest 67 = .ok (.if_icmp .ge 31, 3) := by decide +kernel
theorem dX8_digest_70 : decode cX8_digest 70 = .ok (.aload_n 0, 1) := by decide +kernel
theorem dX8_digest_71 : decode cX8_digest 71 = .ok (.getfield 112, 3) := by decide +kernel
theorem dX8_digest_74 : decode cX8_digest 74 = .ok (.iconst (-1), 1) := by decide +kernel
theorem dX8_digest_75 : decode cX8_digest 75 = .ok (.if_icmp .eq 23, 3) := by decide +kernel
theorem dX8_digest_78 : decode cX8_digest 78 = .ok (.ldc2_w 206, 3) := by decide +kernel
theorem dX8_digest_81 : decode cX8_digest 81 = .ok (.lload_n 1, 1) := by decide +kernel
theorem dX8_digest_82 : decode cX8_digest 82 = .ok (.lmul, 1) := by decide +kernel
theorem dX8_digest_83 : decode cX8_digest 83 = .ok (.aload_n 0, 1) := by decide +kernel
theorem dX8_digest_84 : decode cX8_digest 84 = .ok (.getfield 41, 3) := by decide +kernel
theorem dX8_digest_87 : decode cX8_digest 87 = .ok (.iload_n 3, 1) := by decide +kernel
theorem dX8_digest_88 : decode cX8_digest 88 = .ok (.iaload, 1) := by decide +kernel
theorem dX8_digest_89 : decode cX8_digest 89 = .ok (.i2l, 1) := by decide +kernel
theorem dX8_digest_90 : decode cX8_digest 90 = .ok (.ladd, 1) := by decide +kernel
theorem dX8_digest_91 : decode cX8_digest 91 = .ok (.lstore_n 1, 1) := by decide +kernel
theorem dX8_digest_92 : decode cX8_digest 92 = .ok (.iinc 3 1, 3) := by decide +kernel
theorem dX8_digest_95 : decode cX8_digest 95 = .ok (.goto (-33), 3) := by decide +kernel
theorem dX8_digest_98 : decode cX8_digest 98 = .ok (.lload_n 1, 1) := by decide +kernel
theorem dX8_digest_99 : decode cX8_digest 99 = .ok (.lreturn, 1) := by decide +kernel
