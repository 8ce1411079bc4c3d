theorem dX7_init_0 : decode cX7_init 0 = .ok (.aload_n 0, 1) := by decide +kernel
theorem dX7_init_1 : decode cX7_init 1 = .ok (.invokespecial 1, 3) := by decide +kernel
theorem dX7_init_4 : decode cX7_init 4 = .ok (.aload_n 0, 1) := by decide +kernel
theorem dX7_init_5 : decode cX7_init 5 = .ok (.new 7, 3) := by decide +kernel
theorem dX7_init_8 : decode cX7_init 8 = .ok (.dup, 1) := by decide +kernel
theorem dX7_init_9 : decode cX7_init 9 = .ok (.invokespecial 9, 3) := by decide +kernel
theorem dX7_init_12 : decode cX7_init 12 = .ok (.putfield 10, 3) := by decide +kernel
theorem dX7_init_15 : decode cX7_init 15 = .ok (.aload_n 0, 1) := by decide +kernel
theorem dX7_init_16 : decode cX7_init 16 = .ok (.new 16, 3) := by decide +kernel
theorem dX7_init_19 : decode cX7_init 19 = .ok (.dup, 1) := by decide +kernel
theorem dX7_init_20 : decode cX7_init 20 = .ok (.aload_n 0, 1) := by decide +kernel
theorem dX7_init_21 : decode cX7_init 21 = .ok (.getfield 10, 3) := by decide +kernel
theorem dX7_init_24 : decode cX7_init 24 = .ok (.invokespecial 18, 3) := by decide +kernel
theorem dX7_init_27 : decode cX7_init 27 = .ok (.putfield 21, 3) := by decide +kernel
theorem dX7_init_30 : decode cX7_init 30 = .ok (.aload_n 0, 1) := by decide +kernel
theorem dX7_init_31 : decode cX7_init 31 = .ok (.new 25, 3) := by decide +kernel
theorem dX7_init_34 : decode cX7_init 34 = .ok (.dup, 1) := by decide +kernel
theorem dX7_init_35 : decode cX7_init 35 = .ok (.aload_n 0, 1) := by decide +kernel
theorem dX7_init_36 : decode cX7_init 36 = .ok (.getfield 10, 3) := by decide +kernel
theorem dX7_init_39 : decode cX7_init 39 = .ok (.invokespecial 27, 3) := by decide +kernel
theorem dX7_init_42 : decode cX7_init 42 = .ok (.putfield 28, 3) := by decide +kernel
theorem dX7_init_45 : decode cX7_init 45 = .ok (.aload_n 0, 1) := by decide +kernel
theorem dX7_init_46 : decode cX7_init 46 = .ok (.new 32, 3) := by decide +kernel
theorem dX7_init_49 : decode cX7_init 49 = .ok (.dup, 1) := by decide +kernel
theorem dX7_init_50 : decode cX7_init 50 = .ok (.aload_n 0, 1) := by decide +kernel
theorem dX7_init_51 : decode cX7_init 51 = .ok (.getfield 10, 3) := by decide +kernel
theorem dX7_init_54 : decode cX7_init 54 = .ok (.invokespecial 34, 3) := by decide +kernel
theorem dX7_init_57 : decode cX7_init 57 = .ok (.putfield 35, 3) := by decide +kernel
theorem dX7_init_60 : decode cX7_init 60 = .ok (.aload_n 0, 1) := by decide +kernel
theorem dX7_init_61 : decode cX7_init 61 = .ok (.iconst 4, 1) := by decide +kernel
theorem dX7_init_62 : decode cX7_init 62 = .ok (.anewarray 39, 3) := by decide +kernel
theorem dX7_init_65 : decode cX7_init 65 = .ok (.putfield 41, 3) := by decide +kernel
theorem dX7_init_68 : decode cX7_init 68 = .ok (.iconst 0, 1) := by decide +kernel
theorem dX7_init_69 : decode cX7_init 69 = .ok (.istore_n 1, 1) := by decide +kernel
theorem dX7_init_70 : decode cX7_init 70 = .ok (.iload_n 1, 1) := by decide +kernel
theorem dX7_init_71 : decode cX7_init 71 = .ok (.iconst 4, 1) := by decide +kernel
theorem dX7_init_72 : decode cX7_init 72 = .ok (.if_icmp .ge 26, 3) := by decide +kernel
theorem dX7_init_75 : decode cX7_init 75 = .ok (.aload_n 0, 1) := by decide +kernel
theorem dX7_init_76 : decode cX7_init 76 = .ok (.getfield 41, 3) := by decide +kernel
theorem dX7_init_79 : decode cX7_init 79 = .ok (.iload_n 1, 1) := by decide +kernel
theorem dX7_init_80 : decode cX7_init 80 = .ok (.new 39, 3) := by decide +kernel
theorem dX7_init_83 : decode cX7_init 83 = .ok (.dup, 1) := by decide +kernel
theorem dX7_init_84 : decode cX7_init 84 = .ok (.aload_n 0, 1) := by decide +kernel
theorem dX7_init_85 : decode cX7_init 85 = .ok (.getfield 10, 3) := by decide +kernel
theorem dX7_init_88 : decode cX7_init 88 = .ok (.invokespecial 45, 3) := by decide +kernel
theorem dX7_init_91 : decode cX7_init 91 = .ok (.aastore, 1) := by decide +kernel
theorem dX7_init_92 : decode cX7_init 92 = .ok (.iinc 1 1, 3) := by decide +kernel
theorem dX7_init_95 : decode cX7_init 95 = .ok (.goto (-25), 3) := by decide +kernel
theorem dX7_init_98 : decode cX7_init 98 = .ok (.aload_n 0, 1) := by decide +kernel
theorem dX7_init_99 : decode cX7_init 99 = .ok (.new 46, 3) := by decide +kernel
theorem dX7_init_102 : decode cX7_init 102 = .ok (.dup, 1) := by decide +kernel
theorem dX7_init_103 : decode cX7_init 103 = .ok (.invokespecial 48, 3) := by decide +kernel
theorem dX7_init_106 : decode cX7_init 106 = .ok (.putfield 49, 3) := by decide +kernel
theorem dX7_init_109 : decode cX7_init 109 = .ok (.aload_n 0, 1) := by decide +kernel
theorem dX7_init_110 : decode cX7_init 110 = .ok (.new 53, 3) := by decide +kernel
theorem dX7_init_113 : decode cX7_init 113 = .ok (.dup, 1) := by decide +kernel
theorem dX7_init_114 : decode cX7_init 114 = .ok (.invokespecial 55, 3) := by decide +kernel
theorem dX7_init_117 : decode cX7_init 117 = .ok (.putfield 56, 3) := by decide +kernel
theorem dX7_init_120 : decode cX7_init 120 = .ok (.aload_n 0, 1) := by decide +kernel
theorem dX7_init_121 : decode cX7_init 121 = .ok (.iconst (-1), 1) := by decide +kernel
theorem dX7_init_122 : decode cX7_init 122 = .ok (.putfield 60, 3) := by decide +kernel
theorem dX7_init_125 : decode cX7_init 125 = .ok (.aload_n 0, 1) := by decide +kernel
theorem dX7_init_126 : decode cX7_init 126 = .ok (.iconst 0, 1) := by decide +kernel
theorem dX7_init_127 : decode cX7_init 127 = .ok (.putfield 64, 3) := by decide +kernel
theorem dX7_init_130 : decode cX7_init 130 = .ok (.return_, 1) := by decide +kernel
theorem dX7_wheel_0 : decode cX7_wheel 0 = .ok (.iload_n 1, 1) := by decide +kernel
theorem dX7_wheel_1 : decode cX7_wheel 1 = .ok (.iload_n 2, 1) := by decide +kernel
theorem dX7_wheel_2 : decode cX7_wheel 2 = .ok (.invokestatic 67, 3) := by decide +kernel
theorem dX7_wheel_5 : decode cX7_wheel 5 = .ok (.istore_n 3, 1) := by decide +kernel
theorem dX7_wheel_6 : decode cX7_wheel 6 = .ok (.iload_n 3, 1) := by decide +kernel
theorem dX7_wheel_7 : decode cX7_wheel 7 = .ok (.ifCond .ne 6, 3) := by decide +kernel
theorem dX7_wheel_10 : decode cX7_wheel 10 = .ok (.bipush (-2), 2) := by decide +kernel
theorem dX7_wheel_12 : decode cX7_wheel 12 = .ok (.ireturn, 1) := by decide +kernel
theorem dX7_wheel_13 : decode cX7_wheel 13 = .ok (.aload_n 0, 1) := by decide +kernel
theorem dX7_wheel_14 : decode cX7_wheel 14 = .ok (.getfield 10, 3) := by decide +kernel
theorem dX7_wheel_17 : decode cX7_wheel 17 = .ok (.iload_n 1, 1) := by decide +kernel
theorem dX7_wheel_18 : decode cX7_wheel 18 = .ok (.iload_n 2, 1) := by decide +kernel
theorem dX7_wheel_19 : decode cX7_wheel 19 = .ok (.invokevirtual 71, 3) := by decide +kernel
theorem dX7_wheel_22 : decode cX7_wheel 22 = .ok (.aload_n 0, 1) := by decide +kernel
theorem dX7_wheel_23 : decode cX7_wheel 23 = .ok (.getfield 28, 3) := by decide +kernel
theorem dX7_wheel_26 : decode cX7_wheel 26 = .ok (.invokevirtual 75, 3) := by decide +kernel
theorem dX7_wheel_29 : decode cX7_wheel 29 = .ok (.aload_n 0, 1) := by decide +kernel
theorem dX7_wheel_30 : decode cX7_wheel 30 = .ok (.getfield 35, 3) := by decide +kernel
theorem dX7_wheel_33 : decode cX7_wheel 33 = .ok (.invokevirtual 78, 3) := by decide +kernel
theorem dX7_wheel_36 : decode cX7_wheel 36 = .ok (.aload_n 0, 1) := by decide +kernel
theorem dX7_wheel_37 : decode cX7_wheel 37 = .ok (.iconst (-1), 1) := by decide +kernel
theorem dX7_wheel_38 : decode cX7_wheel 38 = .ok (.putfield 60, 3) := by decide +kernel
theorem dX7_wheel_41 : decode cX7_wheel 41 = .ok (.iload_n 3, 1) := by decide +kernel
theorem dX7_wheel_42 : decode cX7_wheel 42 = .ok (.ireturn, 1) := by decide +kernel
theorem dX7_turn_0 : decode cX7_turn 0 = .ok (.aload_n 0, 1) := by decide +kernel
theorem dX7_turn_1 : decode cX7_turn 1 = .ok (.getfield 10, 3) := by decide +kernel
theorem dX7_turn_4 : decode cX7_turn 4 = .ok (.iload_n 1, 1) := by decide +kernel
theorem dX7_turn_5 : decode cX7_turn 5 = .ok (.invokevirtual 81, 3) := by decide +kernel
theorem dX7_turn_8 : decode cX7_turn 8 = .ok (.ifCond .eq 14, 3) := by decide +kernel
theorem dX7_turn_11 : decode cX7_turn 11 = .ok (.iload_n 2, 1) := by decide +kernel
theorem dX7_turn_12 : decode cX7_turn 12 = .ok (.ifCond .lt 10, 3) := by decide +kernel
theorem dX7_turn_15 : decode cX7_turn 15 = .ok (.iload_n 2, 1) := by decide +kernel
theorem dX7_turn_16 : decode cX7_turn 16 = .ok (.sipush 1000, 3) := by decide +kernel
theorem dX7_turn_19 : decode cX7_turn 19 = .ok (.if_icmp .le 6, 3) := by decide +kernel
theorem dX7_turn_22 : decode cX7_turn 22 = .ok (.bipush (-2), 2) := by decide +kernel
theorem dX7_turn_24 : decode cX7_turn 24 = .ok (.ireturn, 1) := by decide +kernel
theorem dX7_turn_25 : decode cX7_turn 25 = .ok (.aload_n 0, 1) := by decide +kernel
theorem dX7_turn_26 : decode cX7_turn 26 = .ok (.getfield 10, 3) := by decide +kernel
theorem dX7_turn_29 : decode cX7_turn 29 = .ok (.iload_n 1, 1) := by decide +kernel
theorem dX7_turn_30 : decode cX7_turn 30 = .ok (.iload_n 2, 1) := by decide +kernel
theorem dX7_turn_31 : decode cX7_turn 31 = .ok (.invokevirtual 85, 3) := by decide +kernel
theorem dX7_turn_34 : decode cX7_turn 34 = .ok (.ireturn, 1) := by decide +kernel
theorem dX7_least_0 : decode cX7_least 0 = .ok (.aload_n 0, 1) := by decide +kernel
theorem dX7_least_1 : decode cX7_least 1 = .ok (.getfield 10, 3) := by decide +kernel
theorem dX7_least_4 : decode cX7_least 4 = .ok (.iload_n 1, 1) := by decide +kernel
theorem dX7_least_5 : decode cX7_least 5 = .ok (.invokevirtual 81, 3) := by decide +kernel
theorem dX7_least_8 : decode cX7_least 8 = .ok (.ifCond .eq 14, 3) := by decide +kernel
theorem dX7_least_11 : decode cX7_least 11 = .ok (.aload_n 0, 1) := by decide +kernel
theorem dX7_least_12 : decode cX7_least 12 = .ok (.getfield 10, 3) := by decide +kernel
theorem dX7_least_15 : decode cX7_least 15 = .ok (.iload_n 1, 1) := by decide +kernel
theorem dX7_least_16 : decode cX7_least 16 = .ok (.invokevirtual 88, 3) := by decide +kernel
theorem dX7_least_19 : decode cX7_least 19 = .ok (.goto 5, 3) := by decide +kernel
theorem dX7_least_22 : decode cX7_least 22 = .ok (.bipush (-2), 2) := by decide +kernel
theorem dX7_least_24 : decode cX7_least 24 = .ok (.ireturn, 1) := by decide +kernel
theorem dX7_steps_0 : decode cX7_steps 0 = .ok (.aload_n 0, 1) := by decide +kernel
theorem dX7_steps_1 : decode cX7_steps 1 = .ok (.getfield 10, 3) := by decide +kernel
theorem dX7_steps_4 : decode cX7_steps 4 = .ok (.iload_n 1, 1) := by decide +kernel
theorem dX7_steps_5 : decode cX7_steps 5 = .ok (.invokevirtual 81, 3) := by decide +kernel
theorem dX7_steps_8 : decode cX7_steps 8 = .ok (.ifCond .eq 14, 3) := by decide +kernel
theorem dX7_steps_11 : decode cX7_steps 11 = .ok (.aload_n 0, 1) := by decide +kernel
theorem dX7_steps_12 : decode cX7_steps 12 = .ok (.getfield 10, 3) := by decide +kernel
theorem dX7_steps_15 : decode cX7_steps 15 = .ok (.iload_n 1, 1) := by decide +kernel
theorem dX7_steps_16 : decode cX7_steps 16 = .ok (.invokevirtual 92, 3) := by decide +kernel
theorem dX7_steps_19 : decode cX7_steps 19 = .ok (.goto 5, 3) := by decide +kernel
theorem dX7_steps_22 : decode cX7_steps 22 = .ok (.bipush (-2), 2) := by decide +kernel
theorem dX7_steps_24 : decode cX7_steps 24 = .ok (.ireturn, 1) := by decide +kernel
theorem dX7_size_0 : decode cX7_size 0 = .ok (.aload_n 0, 1) := by decide +kernel
theorem dX7_size_1 : decode cX7_size 1 = .ok (.getfield 10, 3) := by decide +kernel
theorem dX7_size_4 : decode cX7_size 4 = .ok (.iload_n 1, 1) := by decide +kernel
theorem dX7_size_5 : decode cX7_size 5 = .ok (.invokevirtual 81, 3) := by decide +kernel
theorem dX7_size_8 : decode cX7_size 8 = .ok (.ifCond .eq 14, 3) := by decide +kernel
theorem dX7_size_11 : decode cX7_size 11 = .ok (.aload_n 0, 1) := by decide +kernel
theorem dX7_size_12 : decode cX7_size 12 = .ok (.getfield 10, 3) := by decide +kernel
theorem dX7_size_15 : decode cX7_size 15 = .ok (.iload_n 1, 1) := by decide +kernel
theorem dX7_size_16 : decode cX7_size 16 = .ok (.invokevirtual 95, 3) := by decide +kernel
theorem dX7_size_19 : decode cX7_size 19 = .ok (.goto 5, 3) := by decide +kernel
theorem dX7_size_22 : decode cX7_size 22 = .ok (.bipush (-2), 2) := by decide +kernel
theorem dX7_size_24 : decode cX7_size 24 = .ok (.ireturn, 1) := by decide +kernel
theorem dX7_even_0 : decode cX7_even 0 = .ok (.aload_n 0, 1) := by decide +kernel
theorem dX7_even_1 : decode cX7_even 1 = .ok (.getfield 10, 3) := by decide +kernel
theorem dX7_even_4 : decode cX7_even 4 = .ok (.iload_n 1, 1) := by decide +kernel
theorem dX7_even_5 : decode cX7_even 5 = .ok (.invokevirtual 81, 3) := by decide +kernel
theorem dX7_even_8 : decode cX7_even 8 = .ok (.ifCond .ne 6, 3) := by decide +kernel
theorem dX7_even_11 : decode cX7_even 11 = .ok (.bipush (-2), 2) := by decide +kernel
theorem dX7_even_13 : decode cX7_even 13 = .ok (.ireturn, 1) := by decide +kernel
theorem dX7_even_14 : decode cX7_even 14 = .ok (.aload_n 0, 1) := by decide +kernel
theorem dX7_even_15 : decode cX7_even 15 = .ok (.getfield 10, 3) := by decide +kernel
theorem dX7_even_18 : decode cX7_even 18 = .ok (.iload_n 1, 1) := by decide +kernel
theorem dX7_even_19 : decode cX7_even 19 = .ok (.invokevirtual 88, 3) := by decide +kernel
theorem dX7_even_22 : decode cX7_even 22 = .ok (.istore_n 2, 1) := by decide +kernel
theorem dX7_even_23 : decode cX7_even 23 = .ok (.aload_n 0, 1) := by decide +kernel
theorem dX7_even_24 : decode cX7_even 24 = .ok (.getfield 10, 3) := by decide +kernel
theorem dX7_even_27 : decode cX7_even 27 = .ok (.aload_n 0, 1) := by decide +kernel
theorem dX7_even_28 : decode cX7_even 28 = .ok (.getfield 10, 3) := by decide +kernel
theorem dX7_even_31 : decode cX7_even 31 = .ok (.iload_n 2, 1) := by decide +kernel
theorem dX7_even_32 : decode cX7_even 32 = .ok (.invokevirtual 98, 3) := by decide +kernel
theorem dX7_even_35 : decode cX7_even 35 = .ok (.invokevirtual 88, 3) := by decide +kernel
theorem dX7_even_38 : decode cX7_even 38 = .ok (.iload_n 2, 1) := by decide +kernel
theorem dX7_even_39 : decode cX7_even 39 = .ok (.if_icmp .ne 7, 3) := by decide +kernel
theorem dX7_even_42 : decode cX7_even 42 = .ok (.iconst 1, 1) := by decide +kernel
theorem dX7_even_43 : decode cX7_even 43 = .ok (.goto 4, 3) := by decide +kernel
theorem dX7_even_46 : decode cX7_even 46 = .ok (.iconst 0, 1) := by decide +kernel
theorem dX7_even_47 : decode cX7_even 47 = .ok (.ireturn, 1) := by decide +kernel
theorem dX7_rings_0 : decode cX7_rings 0 = .ok (.aload_n 0, 1) := by decide +kernel
theorem dX7_rings_1 : decode cX7_rings 1 = .ok (.getfield 21, 3) := by decide +kernel
theorem dX7_rings_4 : decode cX7_rings 4 = .ok (.aload_n 0, 1) := by decide +kernel
theorem dX7_rings_5 : decode cX7_rings 5 = .ok (.getfield 10, 3) := by decide +kernel
theorem dX7_rings_8 : decode cX7_rings 8 = .ok (.getfield 101, 3) := by decide +kernel
theorem dX7_rings_11 : decode cX7_rings 11 = .ok (.iconst 1, 1) := by decide +kernel
theorem dX7_rings_12 : decode cX7_rings 12 = .ok (.isub, 1) := by decide +kernel
theorem dX7_rings_13 : decode cX7_rings 13 = .ok (.invokevirtual 104, 3) := by decide +kernel
theorem dX7_rings_16 : decode cX7_rings 16 = .ok (.ireturn, 1) := by decide +kernel
theorem dX7_ringOf_0 : decode cX7_ringOf 0 = .ok (.aload_n 0, 1) := by decide +kernel
theorem dX7_ringOf_1 : decode cX7_ringOf 1 = .ok (.getfield 10, 3) := by decide +kernel
theorem dX7_ringOf_4 : decode cX7_ringOf 4 = .ok (.iload_n 1, 1) := by decide +kernel
theorem dX7_ringOf_5 : decode cX7_ringOf 5 = .ok (.invokevirtual 81, 3) := by decide +kernel
theorem dX7_ringOf_8 : decode cX7_ringOf 8 = .ok (.ifCond .eq 23, 3) := by decide +kernel
theorem dX7_ringOf_11 : decode cX7_ringOf 11 = .ok (.aload_n 0, 1) := by decide +kernel
theorem dX7_ringOf_12 : decode cX7_ringOf 12 = .ok (.getfield 21, 3) := by decide +kernel
theorem dX7_ringOf_15 : decode cX7_ringOf 15 = .ok (.aload_n 0, 1) := by decide +kernel
theorem dX7_ringOf_16 : decode cX7_ringOf 16 = .ok (.getfield 10, 3) := by decide +kernel
theorem dX7_ringOf_19 : decode cX7_ringOf 19 = .ok (.iload_n 1, 1) := by decide +kernel
theorem dX7_ringOf_20 : decode cX7_ringOf 20 = .ok (.invokevirtual 88, 3) := by decide +kernel
theorem dX7_ringOf_23 : decode cX7_ringOf 23 = .ok (.iconst 1, 1) := by decide +kernel
theorem dX7_ringOf_24 : decode cX7_ringOf 24 = .ok (.isub, 1) := by decide +kernel
theorem dX7_ringOf_25 : decode cX7_ringOf 25 = .ok (.invokevirtual 104, 3) := by decide +kernel
theorem dX7_ringOf_28 : decode cX7_ringOf 28 = .ok (.goto 5, 3) := by decide +kernel
theorem dX7_ringOf_31 : decode cX7_ringOf 31 = .ok (.bipush (-2), 2) := by decide +kernel
theorem dX7_ringOf_33 : decode cX7_ringOf 33 = .ok (.ireturn, 1) := by decide +kernel
theorem dX7_ring_0 : decode cX7_ring 0 = .ok (.iload_n 1, 1) := by decide +kernel
theorem dX7_ring_1 : decode cX7_ring 1 = .ok (.ifCond .lt 11, 3) := by decide +kernel
theorem dX7_ring_4 : decode cX7_ring 4 = .ok (.iload_n 1, 1) := by decide +kernel
theorem dX7_ring_5 : decode cX7_ring 5 = .ok (.aload_n 0, 1) := by decide +kernel
theorem dX7_ring_6 : decode cX7_ring 6 = .ok (.invokevirtual 107, 3) := by decide +kernel
theorem dX7_ring_9 : decode cX7_ring 9 = .ok (.if_icmp .lt 8, 3) := by decide +kernel
theorem dX7_ring_12 : decode cX7_ring 12 = .ok (.bipush (-2), 2) := by decide +kernel
theorem dX7_ring_14 : decode cX7_ring 14 = .ok (.goto 11, 3) := by decide +kernel
theorem dX7_ring_17 : decode cX7_ring 17 = .ok (.aload_n 0, 1) := by decide +kernel
theorem dX7_ring_18 : decode cX7_ring 18 = .ok (.getfield 21, 3) := by decide +kernel
theorem dX7_ring_21 : decode cX7_ring 21 = .ok (.iload_n 1, 1) := by decide +kernel
theorem dX7_ring_22 : decode cX7_ring 22 = .ok (.invokevirtual 111, 3) := by decide +kernel
theorem dX7_ring_25 : decode cX7_ring 25 = .ok (.ireturn, 1) := by decide +kernel
theorem dX7_below_0 : decode cX7_below 0 = .ok (.aload_n 0, 1) := by decide +kernel
theorem dX7_below_1 : decode cX7_below 1 = .ok (.getfield 10, 3) := by decide +kernel
theorem dX7_below_4 : decode cX7_below 4 = .ok (.iload_n 1, 1) := by decide +kernel
theorem dX7_below_5 : decode cX7_below 5 = .ok (.invokevirtual 81, 3) := by decide +kernel
theorem dX7_below_8 : decode cX7_below 8 = .ok (.ifCond .eq 23, 3) := by decide +kernel
theorem dX7_below_11 : decode cX7_below 11 = .ok (.aload_n 0, 1) := by decide +kernel
theorem dX7_below_12 : decode cX7_below 12 = .ok (.getfield 21, 3) := by decide +kernel
theorem dX7_below_15 : decode cX7_below 15 = .ok (.aload_n 0, 1) := by decide +kernel
theorem dX7_below_16 : decode cX7_below 16 = .ok (.getfield 10, 3) := by decide +kernel
theorem dX7_below_19 : decode cX7_below 19 = .ok (.getfield 114, 3) := by decide +kernel
theorem dX7_below_22 : decode cX7_below 22 = .ok (.iload_n 1, 1) := by decide +kernel
theorem dX7_below_23 : decode cX7_below 23 = .ok (.iconst 1, 1) := by decide +kernel
theorem dX7_below_24 : decode cX7_below 24 = .ok (.isub, 1) := by decide +kernel
theorem dX7_below_25 : decode cX7_below 25 = .ok (.invokevirtual 117, 3) := by decide +kernel
theorem dX7_below_28 : decode cX7_below 28 = .ok (.goto 5, 3) := by decide +kernel
theorem dX7_below_31 : decode cX7_below 31 = .ok (.bipush (-2), 2) := by decide +kernel
theorem dX7_below_33 : decode cX7_below 33 = .ok (.ireturn, 1) := by decide +kernel
theorem dX7_content_0 : decode cX7_content 0 = .ok (.aload_n 0, 1) := by decide +kernel
theorem dX7_content_1 : decode cX7_content 1 = .ok (.getfield 21, 3) := by decide +kernel
theorem dX7_content_4 : decode cX7_content 4 = .ok (.iload_n 1, 1) := by decide +kernel
theorem dX7_content_5 : decode cX7_content 5 = .ok (.iload_n 2, 1) := by decide +kernel
theorem dX7_content_6 : decode cX7_content 6 = .ok (.iload_n 3, 1) := by decide +kernel
theorem dX7_content_7 : decode cX7_content 7 = .ok (.iload 4, 2) := by decide +kernel
theorem dX7_content_9 : decode cX7_content 9 = .ok (.iload 5, 2) := by decide +kernel
theorem dX7_content_11 : decode cX7_content 11 = .ok (.invokevirtual 120, 3) := by decide +kernel
theorem dX7_content_14 : decode cX7_content 14 = .ok (.ifCond .eq 13, 3) := by decide +kernel
theorem dX7_content_17 : decode cX7_content 17 = .ok (.aload_n 0, 1) := by decide +kernel
theorem dX7_content_18 : decode cX7_content 18 = .ok (.getfield 21, 3) := by decide +kernel
theorem dX7_content_21 : decode cX7_content 21 = .ok (.invokevirtual 124, 3) := by decide +kernel
theorem dX7_content_24 : decode cX7_content 24 = .ok (.goto 5, 3) := by decide +kernel
theorem dX7_content_27 : decode cX7_content 27 = .ok (.bipush (-2), 2) := by decide +kernel
theorem dX7_content_29 : decode cX7_content 29 = .ok (.ireturn, 1) := by decide +kernel
theorem dX7_factor_0 : decode cX7_factor 0 = .ok (.iload_n 1, 1) := by decide +kernel
theorem dX7_factor_1 : decode cX7_factor 1 = .ok (.ifCond .lt 25, 3) := by decide +kernel
theorem dX7_factor_4 : decode cX7_factor 4 = .ok (.iload_n 1, 1) := by decide +kernel
theorem dX7_factor_5 : decode cX7_factor 5 = .ok (.aload_n 0, 1) := by decide +kernel
theorem dX7_factor_6 : decode cX7_factor 6 = .ok (.getfield 10, 3) := by decide +kernel
theorem dX7_factor_9 : decode cX7_factor 9 = .ok (.getfield 114, 3) := by decide +kernel
theorem dX7_factor_12 : decode cX7_factor 12 = .ok (.if_icmp .ge 14, 3) := by decide +kernel
theorem dX7_factor_15 : decode cX7_factor 15 = .ok (.aload_n 0, 1) := by decide +kernel
theorem dX7_factor_16 : decode cX7_factor 16 = .ok (.getfield 10, 3) := by decide +kernel
theorem dX7_factor_19 : decode cX7_factor 19 = .ok (.iload_n 2, 1) := by decide +kernel
theorem dX7_factor_20 : decode cX7_factor 20 = .ok (.invokevirtual 127, 3) := by decide +kernel
theorem dX7_factor_23 : decode cX7_factor 23 = .ok (.ifCond .ne 6, 3) := by decide +kernel
theorem dX7_factor_26 : decode cX7_factor 26 = .ok (.bipush (-2), 2) := by decide +kernel
theorem dX7_factor_28 : decode cX7_factor 28 = .ok (.ireturn, 1) := by decide +kernel
theorem dX7_factor_29 : decode cX7_factor 29 = .ok (.aload_n 0, 1) := by decide +kernel
theorem dX7_factor_30 : decode cX7_factor 30 = .ok (.getfield 28, 3) := by decide +kernel
theorem dX7_factor_33 : decode cX7_factor 33 = .ok (.iload_n 1, 1) := by decide +kernel
theorem dX7_factor_34 : decode cX7_factor 34 = .ok (.iload_n 2, 1) := by decide +kernel
theorem dX7_factor_35 : decode cX7_factor 35 = .ok (.invokevirtual 130, 3) := by decide +kernel
theorem dX7_factor_38 : decode cX7_factor 38 = .ok (.ireturn, 1) := by decide +kernel
theorem dX7_sum_0 : decode cX7_sum 0 = .ok (.aload_n 0, 1) := by decide +kernel
theorem dX7_sum_1 : decode cX7_sum 1 = .ok (.getfield 10, 3) := by decide +kernel
theorem dX7_sum_4 : decode cX7_sum 4 = .ok (.iload_n 1, 1) := by decide +kernel
theorem dX7_sum_5 : decode cX7_sum 5 = .ok (.invokevirtual 127, 3) := by decide +kernel
theorem dX7_sum_8 : decode cX7_sum 8 = .ok (.ifCond .eq 14, 3) := by decide +kernel
theorem dX7_sum_11 : decode cX7_sum 11 = .ok (.aload_n 0, 1) := by decide +kernel
theorem dX7_sum_12 : decode cX7_sum 12 = .ok (.getfield 28, 3) := by decide +kernel
theorem dX7_sum_15 : decode cX7_sum 15 = .ok (.iload_n 1, 1) := by decide +kernel
theorem dX7_sum_16 : decode cX7_sum 16 = .ok (.invokevirtual 133, 3) := by decide +kernel
theorem dX7_sum_19 : decode cX7_sum 19 = .ok (.goto 5, 3) := by decide +kernel
theorem dX7_sum_22 : decode cX7_sum 22 = .ok (.bipush (-2), 2) := by decide +kernel
theorem dX7_sum_24 : decode cX7_sum 24 = .ok (.ireturn, 1) := by decide +kernel
theorem dX7_go_0 : decode cX7_go 0 = .ok (.aload_n 0, 1) := by decide +kernel
theorem dX7_go_1 : decode cX7_go 1 = .ok (.getfield 10, 3) := by decide +kernel
theorem dX7_go_4 : decode cX7_go 4 = .ok (.iload_n 1, 1) := by decide +kernel
theorem dX7_go_5 : decode cX7_go 5 = .ok (.invokevirtual 81, 3) := by decide +kernel
theorem dX7_go_8 : decode cX7_go 8 = .ok (.ifCond .eq 14, 3) := by decide +kernel
theorem dX7_go_11 : decode cX7_go 11 = .ok (.aload_n 0, 1) := by decide +kernel
theorem dX7_go_12 : decode cX7_go 12 = .ok (.getfield 28, 3) := by decide +kernel
theorem dX7_go_15 : decode cX7_go 15 = .ok (.iload_n 1, 1) := by decide +kernel
theorem dX7_go_16 : decode cX7_go 16 = .ok (.invokevirtual 136, 3) := by decide +kernel
theorem dX7_go_19 : decode cX7_go 19 = .ok (.goto 5, 3) := by decide +kernel
theorem dX7_go_22 : decode cX7_go 22 = .ok (.bipush (-2), 2) := by decide +kernel
theorem dX7_go_24 : decode cX7_go 24 = .ok (.ireturn, 1) := by decide +kernel
theorem dX7_right_0 : decode cX7_right 0 = .ok (.aload_n 0, 1) := by decide +kernel
theorem dX7_right_1 : decode cX7_right 1 = .ok (.getfield 28, 3) := by decide +kernel
theorem dX7_right_4 : decode cX7_right 4 = .ok (.invokevirtual 139, 3) := by decide +kernel
theorem dX7_right_7 : decode cX7_right 7 = .ok (.ifCond .eq 7, 3) := by decide +kernel
theorem dX7_right_10 : decode cX7_right 10 = .ok (.iconst 1, 1) := by decide +kernel
theorem dX7_right_11 : decode cX7_right 11 = .ok (.goto 4, 3) := by decide +kernel
theorem dX7_right_14 : decode cX7_right 14 = .ok (.iconst 0, 1) := by decide +kernel
theorem dX7_right_15 : decode cX7_right 15 = .ok (.ireturn, 1) := by decide +kernel
theorem dX7_exchange_0 : decode cX7_exchange 0 = .ok (.aload_n 0, 1) := by decide +kernel
theorem dX7_exchange_1 : decode cX7_exchange 1 = .ok (.getfield 10, 3) := by decide +kernel
theorem dX7_exchange_4 : decode cX7_exchange 4 = .ok (.iload_n 1, 1) := by decide +kernel
theorem dX7_exchange_5 : decode cX7_exchange 5 = .ok (.invokevirtual 81, 3) := by decide +kernel
theorem dX7_exchange_8 : decode cX7_exchange 8 = .ok (.ifCond .eq 26, 3) := by decide +kernel
theorem dX7_exchange_11 : decode cX7_exchange 11 = .ok (.aload_n 0, 1) := by decide +kernel
theorem dX7_exchange_12 : decode cX7_exchange 12 = .ok (.getfield 10, 3) := by decide +kernel
theorem dX7_exchange_15 : decode cX7_exchange 15 = .ok (.iload_n 2, 1) := by decide +kernel
theorem dX7_exchange_16 : decode cX7_exchange 16 = .ok (.invokevirtual 81, 3) := by decide +kernel
theorem dX7_exchange_19 : decode cX7_exchange 19 = .ok (.ifCond .eq 15, 3) := by decide +kernel
theorem dX7_exchange_22 : decode cX7_exchange 22 = .ok (.aload_n 0, 1) := by decide +kernel
theorem dX7_exchange_23 : decode cX7_exchange 23 = .ok (.getfield 10, 3) := by decide +kernel
theorem dX7_exchange_26 : decode cX7_exchange 26 = .ok (.iload_n 1, 1) := by decide +kernel
theorem dX7_exchange_27 : decode cX7_exchange 27 = .ok (.iload_n 2, 1) := by decide +kernel
theorem dX7_exchange_28 : decode cX7_exchange 28 = .ok (.invokevirtual 143, 3) := by decide +kernel
theorem dX7_exchange_31 : decode cX7_exchange 31 = .ok (.ifCond .ne 6, 3) := by decide +kernel
theorem dX7_exchange_34 : decode cX7_exchange 34 = .ok (.bipush (-2), 2) := by decide +kernel
theorem dX7_exchange_36 : decode cX7_exchange 36 = .ok (.ireturn, 1) := by decide +kernel
theorem dX7_exchange_37 : decode cX7_exchange 37 = .ok (.aload_n 0, 1) := by decide +kernel
theorem dX7_exchange_38 : decode cX7_exchange 38 = .ok (.getfield 28, 3) := by decide +kernel
theorem dX7_exchange_41 : decode cX7_exchange 41 = .ok (.invokevirtual 139, 3) := by decide +kernel
theorem dX7_exchange_44 : decode cX7_exchange 44 = .ok (.ifCond .ne 6, 3) := by decide +kernel
theorem dX7_exchange_47 : decode cX7_exchange 47 = .ok (.bipush (-3), 2) := by decide +kernel
theorem dX7_exchange_49 : decode cX7_exchange 49 = .ok (.ireturn, 1) := by decide +kernel
theorem dX7_exchange_50 : decode cX7_exchange 50 = .ok (.aload_n 0, 1) := by decide +kernel
theorem dX7_exchange_51 : decode cX7_exchange 51 = .ok (.getfield 28, 3) := by decide +kernel
theorem dX7_exchange_54 : decode cX7_exchange 54 = .ok (.invokevirtual 147, 3) := by decide +kernel
theorem dX7_exchange_57 : decode cX7_exchange 57 = .ok (.ifCond .eq 8, 3) := by decide +kernel
theorem dX7_exchange_60 : decode cX7_exchange 60 = .ok (.bipush (-4), 2) := by decide +kernel
theorem dX7_exchange_62 : decode cX7_exchange 62 = .ok (.goto 12, 3) := by decide +kernel
theorem dX7_exchange_65 : decode cX7_exchange 65 = .ok (.aload_n 0, 1) := by decide +kernel
theorem dX7_exchange_66 : decode cX7_exchange 66 = .ok (.getfield 28, 3) := by decide +kernel
theorem dX7_exchange_69 : decode cX7_exchange 69 = .ok (.iload_n 1, 1) := by decide +kernel
theorem dX7_exchange_70 : decode cX7_exchange 70 = .ok (.iload_n 2, 1) := by decide +kernel
theorem dX7_exchange_71 : decode cX7_exchange 71 = .ok (.invokevirtual 150, 3) := by decide +kernel
theorem dX7_exchange_74 : decode cX7_exchange 74 = .ok (.ireturn, 1) := by decide +kernel
theorem dX7_back_0 : decode cX7_back 0 = .ok (.aload_n 0, 1) := by decide +kernel
theorem dX7_back_1 : decode cX7_back 1 = .ok (.getfield 28, 3) := by decide +kernel
theorem dX7_back_4 : decode cX7_back 4 = .ok (.getfield 153, 3) := by decide +kernel
theorem dX7_back_7 : decode cX7_back 7 = .ok (.ifCond .ne 8, 3) := by decide +kernel
theorem dX7_back_10 : decode cX7_back 10 = .ok (.bipush (-3), 2) := by decide +kernel
theorem dX7_back_12 : decode cX7_back 12 = .ok (.goto 10, 3) := by decide +kernel
theorem dX7_back_15 : decode cX7_back 15 = .ok (.aload_n 0, 1) := by decide +kernel
theorem dX7_back_16 : decode cX7_back 16 = .ok (.getfield 28, 3) := by decide +kernel
theorem dX7_back_19 : decode cX7_back 19 = .ok (.invokevirtual 156, 3) := by decide +kernel
theorem dX7_back_22 : decode cX7_back 22 = .ok (.ireturn, 1) := by decide +kernel
theorem dX7_cycles_0 : decode cX7_cycles 0 = .ok (.aload_n 0, 1) := by decide +kernel
theorem dX7_cycles_1 : decode cX7_cycles 1 = .ok (.getfield 28, 3) := by decide +kernel
theorem dX7_cycles_4 : decode cX7_cycles 4 = .ok (.invokevirtual 139, 3) := by decide +kernel
theorem dX7_cycles_7 : decode cX7_cycles 7 = .ok (.ifCond .eq 13, 3) := by decide +kernel
theorem dX7_cycles_10 : decode cX7_cycles 10 = .ok (.aload_n 0, 1) := by decide +kernel
theorem dX7_cycles_11 : decode cX7_cycles 11 = .ok (.getfield 28, 3) := by decide +kernel
theorem dX7_cycles_14 : decode cX7_cycles 14 = .ok (.invokevirtual 159, 3) := by decide +kernel
theorem dX7_cycles_17 : decode cX7_cycles 17 = .ok (.goto 5, 3) := by decide +kernel
theorem dX7_cycles_20 : decode cX7_cycles 20 = .ok (.bipush (-3), 2) := by decide +kernel
theorem dX7_cycles_22 : decode cX7_cycles 22 = .ok (.ireturn, 1) := by decide +kernel
theorem dX7_cycleOf_0 : decode cX7_cycleOf 0 = .ok (.aload_n 0, 1) := by decide +kernel
theorem dX7_cycleOf_1 : decode cX7_cycleOf 1 = .ok (.getfield 28, 3) := by decide +kernel
theorem dX7_cycleOf_4 : decode cX7_cycleOf 4 = .ok (.invokevirtual 139, 3) := by decide +kernel
theorem dX7_cycleOf_7 : decode cX7_cycleOf 7 = .ok (.ifCond .ne 6, 3) := by decide +kernel
theorem dX7_cycleOf_10 : decode cX7_cycleOf 10 = .ok (.bipush (-3), 2) := by decide +kernel
theorem dX7_cycleOf_12 : decode cX7_cycleOf 12 = .ok (.ireturn, 1) := by decide +kernel
theorem dX7_cycleOf_13 : decode cX7_cycleOf 13 = .ok (.aload_n 0, 1) := by decide +kernel
theorem dX7_cycleOf_14 : decode cX7_cycleOf 14 = .ok (.getfield 10, 3) := by decide +kernel
theorem dX7_cycleOf_17 : decode cX7_cycleOf 17 = .ok (.iload_n 1, 1) := by decide +kernel
theorem dX7_cycleOf_18 : decode cX7_cycleOf 18 = .ok (.invokevirtual 81, 3) := by decide +kernel
theorem dX7_cycleOf_21 : decode cX7_cycleOf 21 = .ok (.ifCond .eq 14, 3) := by decide +kernel
theorem dX7_cycleOf_24 : decode cX7_cycleOf 24 = .ok (.aload_n 0, 1) := by decide +kernel
theorem dX7_cycleOf_25 : decode cX7_cycleOf 25 = .ok (.getfield 28, 3) := by decide +kernel
theorem dX7_cycleOf_28 : decode cX7_cycleOf 28 = .ok (.iload_n 1, 1) := by decide +kernel
theorem dX7_cycleOf_29 : decode cX7_cycleOf 29 = .ok (.invokevirtual 162, 3) := by decide +kernel
theorem dX7_cycleOf_32 : decode cX7_cycleOf 32 = .ok (.goto 5, 3) := by decide +kernel
theorem dX7_cycleOf_35 : decode cX7_cycleOf 35 = .ok (.bipush (-2), 2) := by decide +kernel
theorem dX7_cycleOf_37 : decode cX7_cycleOf 37 = .ok (.ireturn, 1) := by decide +kernel
theorem dX7_cycle_0 : decode cX7_cycle 0 = .ok (.aload_n 0, 1) := by decide +kernel
theorem dX7_cycle_1 : decode cX7_cycle 1 = .ok (.getfield 28, 3) := by decide +kernel
theorem dX7_cycle_4 : decode cX7_cycle 4 = .ok (.invokevirtual 139, 3) := by decide +kernel
theorem dX7_cycle_7 : decode cX7_cycle 7 = .ok (.ifCond .ne 6, 3) := by decide +kernel
theorem dX7_cycle_10 : decode cX7_cycle 10 = .ok (.bipush (-3), 2) := by decide +kernel
theorem dX7_cycle_12 : decode cX7_cycle 12 = .ok (.ireturn, 1) := by decide +kernel
theorem dX7_cycle_13 : decode cX7_cycle 13 = .ok (.iload_n 1, 1) := by decide +kernel
theorem dX7_cycle_14 : decode cX7_cycle 14 = .ok (.ifCond .lt 14, 3) := by decide +kernel
theorem dX7_cycle_17 : decode cX7_cycle 17 = .ok (.iload_n 1, 1) := by decide +kernel
theorem dX7_cycle_18 : decode cX7_cycle 18 = .ok (.aload_n 0, 1) := by decide +kernel
theorem dX7_cycle_19 : decode cX7_cycle 19 = .ok (.getfield 28, 3) := by decide +kernel
theorem dX7_cycle_22 : decode cX7_cycle 22 = .ok (.invokevirtual 159, 3) := by decide +kernel
theorem dX7_cycle_25 : decode cX7_cycle 25 = .ok (.if_icmp .lt 6, 3) := by decide +kernel
theorem dX7_cycle_28 : decode cX7_cycle 28 = .ok (.bipush (-2), 2) := by decide +kernel
theorem dX7_cycle_30 : decode cX7_cycle 30 = .ok (.ireturn, 1) := by decide +kernel
theorem dX7_cycle_31 : decode cX7_cycle 31 = .ok (.iload_n 2, 1) := by decide +kernel
theorem dX7_cycle_32 : decode cX7_cycle 32 = .ok (.lookupswitch 46 #[(0, 28), (1, 37)], 28) := by decide +kernel
theorem dX7_cycle_60 : decode cX7_cycle 60 = .ok (.aload_n 0, 1) := by decide +kernel
theorem dX7_cycle_61 : decode cX7_cycle 61 = .ok (.getfield 28, 3) := by decide +kernel
theorem dX7_cycle_64 : decode cX7_cycle 64 = .ok (.iload_n 1, 1) := by decide +kernel
theorem dX7_cycle_65 : decode cX7_cycle 65 = .ok (.invokevirtual 165, 3) := by decide +kernel
theorem dX7_cycle_68 : decode cX7_cycle 68 = .ok (.ireturn, 1) := by decide +kernel
theorem dX7_cycle_69 : decode cX7_cycle 69 = .ok (.aload_n 0, 1) := by decide +kernel
theorem dX7_cycle_70 : decode cX7_cycle 70 = .ok (.getfield 28, 3) := by decide +kernel
theorem dX7_cycle_73 : decode cX7_cycle 73 = .ok (.iload_n 1, 1) := by decide +kernel
theorem dX7_cycle_74 : decode cX7_cycle 74 = .ok (.invokevirtual 168, 3) := by decide +kernel
theorem dX7_cycle_77 : decode cX7_cycle 77 = .ok (.ireturn, 1) := by decide +kernel
theorem dX7_cycle_78 : decode cX7_cycle 78 = .ok (.bipush (-2), 2) := by decide +kernel
theorem dX7_cycle_80 : decode cX7_cycle 80 = .ok (.ireturn, 1) := by decide +kernel
theorem dX7_join_0 : decode cX7_join 0 = .ok (.aload_n 0, 1) := by decide +kernel
theorem dX7_join_1 : decode cX7_join 1 = .ok (.getfield 28, 3) := by decide +kernel
theorem dX7_join_4 : decode cX7_join 4 = .ok (.invokevirtual 139, 3) := by decide +kernel
theorem dX7_join_7 : decode cX7_join 7 = .ok (.ifCond .eq 13, 3) := by decide +kernel
theorem dX7_join_10 : decode cX7_join 10 = .ok (.aload_n 0, 1) := by decide +kernel
theorem dX7_join_11 : decode cX7_join 11 = .ok (.getfield 28, 3) := by decide +kernel
theorem dX7_join_14 : decode cX7_join 14 = .ok (.invokevirtual 171, 3) := by decide +kernel
theorem dX7_join_17 : decode cX7_join 17 = .ok (.goto 5, 3) := by decide +kernel
theorem dX7_join_20 : decode cX7_join 20 = .ok (.bipush (-3), 2) := by decide +kernel
theorem dX7_join_22 : decode cX7_join 22 = .ok (.ireturn, 1) := by decide +kernel
theorem dX7_round_0 : decode cX7_round 0 = .ok (.iload_n 1, 1) := by decide +kernel
theorem dX7_round_1 : decode cX7_round 1 = .ok (.tableswitch 103 0 2 #[27, 42, 57], 27) := by decide +kernel
theorem dX7_round_28 : decode cX7_round 28 = .ok (.aload_n 0, 1) := by decide +kernel
theorem dX7_round_29 : decode cX7_round 29 = .ok (.getfield 35, 3) := by decide +kernel
theorem dX7_round_32 : decode cX7_round 32 = .ok (.invokevirtual 174, 3) := by decide +kernel
theorem dX7_round_35 : decode cX7_round 35 = .ok (.aload_n 0, 1) := by decide +kernel
theorem dX7_round_36 : decode cX7_round 36 = .ok (.getfield 10, 3) := by decide +kernel
theorem dX7_round_39 : decode cX7_round 39 = .ok (.getfield 101, 3) := by decide +kernel
theorem dX7_round_42 : decode cX7_round 42 = .ok (.ireturn, 1) := by decide +kernel
theorem dX7_round_43 : decode cX7_round 43 = .ok (.aload_n 0, 1) := by decide +kernel
theorem dX7_round_44 : decode cX7_round 44 = .ok (.getfield 35, 3) := by decide +kernel
theorem dX7_round_47 : decode cX7_round 47 = .ok (.invokevirtual 177, 3) := by decide +kernel
theorem dX7_round_50 : decode cX7_round 50 = .ok (.aload_n 0, 1) := by decide +kernel
theorem dX7_round_51 : decode cX7_round 51 = .ok (.getfield 10, 3) := by decide +kernel
theorem dX7_round_54 : decode cX7_round 54 = .ok (.getfield 101, 3) := by decide +kernel
theorem dX7_round_57 : decode cX7_round 57 = .ok (.ireturn, 1) := by decide +kernel
theorem dX7_round_58 : decode cX7_round 58 = .ok (.aload_n 0, 1) := by decide +kernel
theorem dX7_round_59 : decode cX7_round 59 = .ok (.getfield 28, 3) := by decide +kernel
theorem dX7_round_62 : decode cX7_round 62 = .ok (.invokevirtual 139, 3) := by decide +kernel
theorem dX7_round_65 : decode cX7_round 65 = .ok (.ifCond .eq 14, 3) := by decide +kernel
theorem dX7_round_68 : decode cX7_round 68 = .ok (.aload_n 0, 1) := by decide +kernel
theorem dX7_round_69 : decode cX7_round 69 = .ok (.getfield 28, 3) := by decide +kernel
theorem dX7_round_72 : decode cX7_round 72 = .ok (.invokevirtual 159, 3) := by decide +kernel
theorem dX7_round_75 : decode cX7_round 75 = .ok (.iconst 1, 1) := by decide +kernel
theorem dX7_round_76 : decode cX7_round 76 = .ok (.if_icmp .eq 6, 3) := by decide +kernel
theorem dX7_round_79 : decode cX7_round 79 = .ok (.bipush (-3), 2) := by decide +kernel
theorem dX7_round_81 : decode cX7_round 81 = .ok (.ireturn, 1) := by decide +kernel
theorem dX7_round_82 : decode cX7_round 82 = .ok (.aload_n 0, 1) := by decide +kernel
theorem dX7_round_83 : decode cX7_round 83 = .ok (.getfield 35, 3) := by decide +kernel
theorem dX7_round_86 : decode cX7_round 86 = .ok (.aload_n 0, 1) := by decide +kernel
theorem dX7_round_87 : decode cX7_round 87 = .ok (.getfield 28, 3) := by decide +kernel
theorem dX7_round_90 : decode cX7_round 90 = .ok (.invokevirtual 180, 3) := by decide +kernel
theorem dX7_round_93 : decode cX7_round 93 = .ok (.invokevirtual 184, 3) := by decide +kernel
theorem dX7_round_96 : decode cX7_round 96 = .ok (.aload_n 0, 1) := by decide +kernel
theorem dX7_round_97 : decode cX7_round 97 = .ok (.getfield 10, 3) := by decide +kernel
theorem dX7_round_100 : decode cX7_round 100 = .ok (.getfield 101, 3) := by decide +kernel
theorem dX7_round_103 : decode cX7_round 103 = .ok (.ireturn, 1) := by decide +kernel
theorem dX7_round_104 : decode cX7_round 104 = .ok (.bipush (-2), 2) := by decide +kernel
theorem dX7_round_106 : decode cX7_round 106 = .ok (.ireturn, 1) := by decide +kernel
theorem dX7_letter_0 : decode cX7_letter 0 = .ok (.aload_n 0, 1) := by decide +kernel
theorem dX7_letter_1 : decode cX7_letter 1 = .ok (.getfield 35, 3) := by decide +kernel
theorem dX7_letter_4 : decode cX7_letter 4 = .ok (.iload_n 1, 1) := by decide +kernel
theorem dX7_letter_5 : decode cX7_letter 5 = .ok (.invokevirtual 188, 3) := by decide +kernel
theorem dX7_letter_8 : decode cX7_letter 8 = .ok (.ifCond .eq 15, 3) := by decide +kernel
theorem dX7_letter_11 : decode cX7_letter 11 = .ok (.aload_n 0, 1) := by decide +kernel
theorem dX7_letter_12 : decode cX7_letter 12 = .ok (.getfield 35, 3) := by decide +kernel
theorem dX7_letter_15 : decode cX7_letter 15 = .ok (.getfield 191, 3) := by decide +kernel
theorem dX7_letter_18 : decode cX7_letter 18 = .ok (.iload_n 1, 1) := by decide +kernel
theorem dX7_letter_19 : decode cX7_letter 19 = .ok (.baload, 1) := by decide +kernel
theorem dX7_letter_20 : decode cX7_letter 20 = .ok (.goto 5, 3) := by decide +kernel
theorem dX7_letter_23 : decode cX7_letter 23 = .ok (.bipush (-2), 2) := by decide +kernel
theorem dX7_letter_25 : decode cX7_letter 25 = .ok (.ireturn, 1) := by decide +kernel
theorem dX7_place_0 : decode cX7_place 0 = .ok (.aload_n 0, 1) := by decide +kernel
theorem dX7_place_1 : decode cX7_place 1 = .ok (.getfield 10, 3) := by decide +kernel
theorem dX7_place_4 : decode cX7_place 4 = .ok (.iload_n 1, 1) := by decide +kernel
theorem dX7_place_5 : decode cX7_place 5 = .ok (.invokevirtual 81, 3) := by decide +kernel
theorem dX7_place_8 : decode cX7_place 8 = .ok (.ifCond .ne 6, 3) := by decide +kernel
theorem dX7_place_11 : decode cX7_place 11 = .ok (.bipush (-2), 2) := by decide +kernel
theorem dX7_place_13 : decode cX7_place 13 = .ok (.ireturn, 1) := by decide +kernel
theorem dX7_place_14 : decode cX7_place 14 = .ok (.aload_n 0, 1) := by decide +kernel
theorem dX7_place_15 : decode cX7_place 15 = .ok (.getfield 35, 3) := by decide +kernel
theorem dX7_place_18 : decode cX7_place 18 = .ok (.invokevirtual 195, 3) := by decide +kernel
theorem dX7_place_21 : decode cX7_place 21 = .ok (.ifCond .eq 15, 3) := by decide +kernel
theorem dX7_place_24 : decode cX7_place 24 = .ok (.aload_n 0, 1) := by decide +kernel
theorem dX7_place_25 : decode cX7_place 25 = .ok (.getfield 35, 3) := by decide +kernel
theorem dX7_place_28 : decode cX7_place 28 = .ok (.getfield 198, 3) := by decide +kernel
theorem dX7_place_31 : decode cX7_place 31 = .ok (.iload_n 1, 1) := by decide +kernel
theorem dX7_place_32 : decode cX7_place 32 = .ok (.iaload, 1) := by decide +kernel
theorem dX7_place_33 : decode cX7_place 33 = .ok (.goto 5, 3) := by decide +kernel
theorem dX7_place_36 : decode cX7_place 36 = .ok (.bipush (-3), 2) := by decide +kernel
theorem dX7_place_38 : decode cX7_place 38 = .ok (.ireturn, 1) := by decide +kernel
theorem dX7_way_0 : decode cX7_way 0 = .ok (.aload_n 0, 1) := by decide +kernel
theorem dX7_way_1 : decode cX7_way 1 = .ok (.getfield 35, 3) := by decide +kernel
theorem dX7_way_4 : decode cX7_way 4 = .ok (.iload_n 1, 1) := by decide +kernel
theorem dX7_way_5 : decode cX7_way 5 = .ok (.invokevirtual 188, 3) := by decide +kernel
theorem dX7_way_8 : decode cX7_way 8 = .ok (.ifCond .eq 14, 3) := by decide +kernel
theorem dX7_way_11 : decode cX7_way 11 = .ok (.aload_n 0, 1) := by decide +kernel
theorem dX7_way_12 : decode cX7_way 12 = .ok (.getfield 35, 3) := by decide +kernel
theorem dX7_way_15 : decode cX7_way 15 = .ok (.iload_n 2, 1) := by decide +kernel
theorem dX7_way_16 : decode cX7_way 16 = .ok (.invokevirtual 188, 3) := by decide +kernel
theorem dX7_way_19 : decode cX7_way 19 = .ok (.ifCond .ne 6, 3) := by decide +kernel
theorem dX7_way_22 : decode cX7_way 22 = .ok (.bipush (-2), 2) := by decide +kernel
theorem dX7_way_24 : decode cX7_way 24 = .ok (.ireturn, 1) := by decide +kernel
theorem dX7_way_25 : decode cX7_way 25 = .ok (.iload_n 1, 1) := by decide +kernel
theorem dX7_way_26 : decode cX7_way 26 = .ok (.iload_n 2, 1) := by decide +kernel
theorem dX7_way_27 : decode cX7_way 27 = .ok (.if_icmp .gt 9, 3) := by decide +kernel
theorem dX7_way_30 : decode cX7_way 30 = .ok (.iload_n 2, 1) := by decide +kernel
theorem dX7_way_31 : decode cX7_way 31 = .ok (.iload_n 1, 1) := by decide +kernel
theorem dX7_way_32 : decode cX7_way 32 = .ok (.isub, 1) := by decide +kernel
theorem dX7_way_33 : decode cX7_way 33 = .ok (.goto 14, 3) := by decide +kernel
theorem dX7_way_36 : decode cX7_way 36 = .ok (.iload_n 2, 1) := by decide +kernel
theorem dX7_way_37 : decode cX7_way 37 = .ok (.iload_n 1, 1) := by decide +kernel
theorem dX7_way_38 : decode cX7_way 38 = .ok (.isub, 1) := by decide +kernel
theorem dX7_way_39 : decode cX7_way 39 = .ok (.aload_n 0, 1) := by decide +kernel
theorem dX7_way_40 : decode cX7_way 40 = .ok (.getfield 10, 3) := by decide +kernel
theorem dX7_way_43 : decode cX7_way 43 = .ok (.getfield 101, 3) := by decide +kernel
theorem dX7_way_46 : decode cX7_way 46 = .ok (.iadd, 1) := by decide +kernel
theorem dX7_way_47 : decode cX7_way 47 = .ok (.ireturn, 1) := by decide +kernel
theorem dX7_tape_0 : decode cX7_tape 0 = .ok (.iload_n 1, 1) := by decide +kernel
theorem dX7_tape_1 : decode cX7_tape 1 = .ok (.invokestatic 202, 3) := by decide +kernel
theorem dX7_tape_4 : decode cX7_tape 4 = .ok (.ifCond .eq 17, 3) := by decide +kernel
theorem dX7_tape_7 : decode cX7_tape 7 = .ok (.iload_n 2, 1) := by decide +kernel
theorem dX7_tape_8 : decode cX7_tape 8 = .ok (.invokestatic 205, 3) := by decide +kernel
theorem dX7_tape_11 : decode cX7_tape 11 = .ok (.ifCond .eq 10, 3) := by decide +kernel
theorem dX7_tape_14 : decode cX7_tape 14 = .ok (.iload_n 3, 1) := by decide +kernel
theorem dX7_tape_15 : decode cX7_tape 15 = .ok (.sipush 200, 3) := by decide +kernel
theorem dX7_tape_18 : decode cX7_tape 18 = .ok (.if_icmp .le 6, 3) := by decide +kernel
theorem dX7_tape_21 : decode cX7_tape 21 = .ok (.bipush (-2), 2) := by decide +kernel
theorem dX7_tape_23 : decode cX7_tape 23 = .ok (.ireturn, 1) := by decide +kernel
theorem dX7_tape_24 : decode cX7_tape 24 = .ok (.iload_n 3, 1) := by decide +kernel
theorem dX7_tape_25 : decode cX7_tape 25 = .ok (.ifCond .ge 9, 3) := by decide +kernel
theorem dX7_tape_28 : decode cX7_tape 28 = .ok (.aload_n 0, 1) := by decide +kernel
theorem dX7_tape_29 : decode cX7_tape 29 = .ok (.iconst 5, 1) := by decide +kernel
theorem dX7_tape_30 : decode cX7_tape 30 = .ok (.invokevirtual 208, 3) := by decide +kernel
theorem dX7_tape_33 : decode cX7_tape 33 = .ok (.ireturn, 1) := by decide +kernel
theorem dX7_tape_34 : decode cX7_tape 34 = .ok (.aload_n 0, 1) := by decide +kernel
theorem dX7_tape_35 : decode cX7_tape 35 = .ok (.getfield 41, 3) := by decide +kernel
theorem dX7_tape_38 : decode cX7_tape 38 = .ok (.iload_n 1, 1) := by decide +kernel
theorem dX7_tape_39 : decode cX7_tape 39 = .ok (.aaload, 1) := by decide +kernel
theorem dX7_tape_40 : decode cX7_tape 40 = .ok (.iload_n 2, 1) := by decide +kernel
theorem dX7_tape_41 : decode cX7_tape 41 = .ok (.iload_n 3, 1) := by decide +kernel
theorem dX7_tape_42 : decode cX7_tape 42 = .ok (.invokevirtual 211, 3) := by decide +kernel
theorem dX7_tape_45 : decode cX7_tape 45 = .ok (.iload_n 3, 1) := by decide +kernel
theorem dX7_tape_46 : decode cX7_tape 46 = .ok (.ireturn, 1) := by decide +kernel
theorem dX7_lose_0 : decode cX7_lose 0 = .ok (.iload_n 1, 1) := by decide +kernel
theorem dX7_lose_1 : decode cX7_lose 1 = .ok (.invokestatic 202, 3) := by decide +kernel
theorem dX7_lose_4 : decode cX7_lose 4 = .ok (.ifCond .ne 6, 3) := by decide +kernel
theorem dX7_lose_7 : decode cX7_lose 7 = .ok (.bipush (-2), 2) := by decide +kernel
theorem dX7_lose_9 : decode cX7_lose 9 = .ok (.ireturn, 1) := by decide +kernel
theorem dX7_lose_10 : decode cX7_lose 10 = .ok (.aload_n 0, 1) := by decide +kernel
theorem dX7_lose_11 : decode cX7_lose 11 = .ok (.getfield 41, 3) := by decide +kernel
theorem dX7_lose_14 : decode cX7_lose 14 = .ok (.iload_n 1, 1) := by decide +kernel
theorem dX7_lose_15 : decode cX7_lose 15 = .ok (.aaload, 1) := by decide +kernel
theorem dX7_lose_16 : decode cX7_lose 16 = .ok (.invokevirtual 214, 3) := by decide +kernel
theorem dX7_lose_19 : decode cX7_lose 19 = .ok (.ifCond .eq 11, 3) := by decide +kernel
theorem dX7_lose_22 : decode cX7_lose 22 = .ok (.aload_n 0, 1) := by decide +kernel
theorem dX7_lose_23 : decode cX7_lose 23 = .ok (.iconst 1, 1) := by decide +kernel
theorem dX7_lose_24 : decode cX7_lose 24 = .ok (.invokevirtual 208, 3) := by decide +kernel
theorem dX7_lose_27 : decode cX7_lose 27 = .ok (.goto 12, 3) := by decide +kernel
theorem dX7_lose_30 : decode cX7_lose 30 = .ok (.aload_n 0, 1) := by decide +kernel
theorem dX7_lose_31 : decode cX7_lose 31 = .ok (.getfield 41, 3) := by decide +kernel
theorem dX7_lose_34 : decode cX7_lose 34 = .ok (.iload_n 1, 1) := by decide +kernel
theorem dX7_lose_35 : decode cX7_lose 35 = .ok (.aaload, 1) := by decide +kernel
theorem dX7_lose_36 : decode cX7_lose 36 = .ok (.invokevirtual 217, 3) := by decide +kernel
theorem dX7_lose_39 : decode cX7_lose 39 = .ok (.ireturn, 1) := by decide +kernel
theorem dX7_put_0 : decode cX7_put 0 = .ok (.iload_n 1, 1) := by decide +kernel
theorem dX7_put_1 : decode cX7_put 1 = .ok (.invokestatic 202, 3) := by decide +kernel
theorem dX7_put_4 : decode cX7_put 4 = .ok (.ifCond .eq 10, 3) := by decide +kernel
theorem dX7_put_7 : decode cX7_put 7 = .ok (.iload_n 2, 1) := by decide +kernel
theorem dX7_put_8 : decode cX7_put 8 = .ok (.invokestatic 205, 3) := by decide +kernel
theorem dX7_put_11 : decode cX7_put 11 = .ok (.ifCond .ne 6, 3) := by decide +kernel
theorem dX7_put_14 : decode cX7_put 14 = .ok (.bipush (-2), 2) := by decide +kernel
theorem dX7_put_16 : decode cX7_put 16 = .ok (.ireturn, 1) := by decide +kernel
theorem dX7_put_17 : decode cX7_put 17 = .ok (.aload_n 0, 1) := by decide +kernel
theorem dX7_put_18 : decode cX7_put 18 = .ok (.getfield 41, 3) := by decide +kernel
theorem dX7_put_21 : decode cX7_put 21 = .ok (.iload_n 1, 1) := by decide +kernel
theorem dX7_put_22 : decode cX7_put 22 = .ok (.aaload, 1) := by decide +kernel
theorem dX7_put_23 : decode cX7_put 23 = .ok (.iload_n 2, 1) := by decide +kernel
theorem dX7_put_24 : decode cX7_put 24 = .ok (.iload_n 3, 1) := by decide +kernel
theorem dX7_put_25 : decode cX7_put 25 = .ok (.invokestatic 219, 3) := by decide +kernel
theorem dX7_put_28 : decode cX7_put 28 = .ok (.istore 5, 2) := by decide +kernel
theorem dX7_put_30 : decode cX7_put 30 = .ok (.iload 5, 2) := by decide +kernel
theorem dX7_put_32 : decode cX7_put 32 = .ok (.ifCond .eq 10, 3) := by decide +kernel
theorem dX7_put_35 : decode cX7_put 35 = .ok (.aload_n 0, 1) := by decide +kernel
theorem dX7_put_36 : decode cX7_put 36 = .ok (.iload 5, 2) := by decide +kernel
theorem dX7_put_38 : decode cX7_put 38 = .ok (.invokevirtual 208, 3) := by decide +kernel
theorem dX7_put_41 : decode cX7_put 41 = .ok (.ireturn, 1) := by decide +kernel
theorem dX7_put_42 : decode cX7_put 42 = .ok (.aload_n 0, 1) := by decide +kernel
theorem dX7_put_43 : decode cX7_put 43 = .ok (.getfield 41, 3) := by decide +kernel
theorem dX7_put_46 : decode cX7_put 46 = .ok (.iload_n 1, 1) := by decide +kernel
theorem dX7_put_47 : decode cX7_put 47 = .ok (.aaload, 1) := by decide +kernel
theorem dX7_put_48 : decode cX7_put 48 = .ok (.getfield 223, 3) := by decide +kernel
theorem dX7_put_51 : decode cX7_put 51 = .ok (.iload_n 3, 1) := by decide +kernel
theorem dX7_put_52 : decode cX7_put 52 = .ok (.aload_n 0, 1) := by decide +kernel
theorem dX7_put_53 : decode cX7_put 53 = .ok (.getfield 41, 3) := by decide +kernel
theorem dX7_put_56 : decode cX7_put 56 = .ok (.iload_n 1, 1) := by decide +kernel
theorem dX7_put_57 : decode cX7_put 57 = .ok (.aaload, 1) := by decide +kernel
theorem dX7_put_58 : decode cX7_put 58 = .ok (.iload 4, 2) := by decide +kernel
theorem dX7_put_60 : decode cX7_put 60 = .ok (.invokevirtual 226, 3) := by decide +kernel
theorem dX7_put_63 : decode cX7_put 63 = .ok (.iastore, 1) := by decide +kernel
theorem dX7_put_64 : decode cX7_put 64 = .ok (.iconst 1, 1) := by decide +kernel
theorem dX7_put_65 : decode cX7_put 65 = .ok (.ireturn, 1) := by decide +kernel
theorem dX7_get_0 : decode cX7_get 0 = .ok (.iload_n 1, 1) := by decide +kernel
theorem dX7_get_1 : decode cX7_get 1 = .ok (.invokestatic 202, 3) := by decide +kernel
theorem dX7_get_4 : decode cX7_get 4 = .ok (.ifCond .eq 10, 3) := by decide +kernel
theorem dX7_get_7 : decode cX7_get 7 = .ok (.iload_n 2, 1) := by decide +kernel
theorem dX7_get_8 : decode cX7_get 8 = .ok (.invokestatic 205, 3) := by decide +kernel
theorem dX7_get_11 : decode cX7_get 11 = .ok (.ifCond .ne 6, 3) := by decide +kernel
theorem dX7_get_14 : decode cX7_get 14 = .ok (.ldc 231, 2) := by decide +kernel
theorem dX7_get_16 : decode cX7_get 16 = .ok (.ireturn, 1) := by decide +kernel
theorem dX7_get_17 : decode cX7_get 17 = .ok (.aload_n 0, 1) := by decide +kernel
theorem dX7_get_18 : decode cX7_get 18 = .ok (.getfield 41, 3) := by decide +kernel
theorem dX7_get_21 : decode cX7_get 21 = .ok (.iload_n 1, 1) := by decide +kernel
theorem dX7_get_22 : decode cX7_get 22 = .ok (.aaload, 1) := by decide +kernel
theorem dX7_get_23 : decode cX7_get 23 = .ok (.iload_n 2, 1) := by decide +kernel
theorem dX7_get_24 : decode cX7_get 24 = .ok (.iload_n 3, 1) := by decide +kernel
theorem dX7_get_25 : decode cX7_get 25 = .ok (.invokestatic 219, 3) := by decide +kernel
theorem dX7_get_28 : decode cX7_get 28 = .ok (.istore 4, 2) := by decide +kernel
theorem dX7_get_30 : decode cX7_get 30 = .ok (.iload 4, 2) := by decide +kernel
theorem dX7_get_32 : decode cX7_get 32 = .ok (.ifCond .eq 12, 3) := by decide +kernel
theorem dX7_get_35 : decode cX7_get 35 = .ok (.aload_n 0, 1) := by decide +kernel
theorem dX7_get_36 : decode cX7_get 36 = .ok (.iload 4, 2) := by decide +kernel
theorem dX7_get_38 : decode cX7_get 38 = .ok (.putfield 64, 3) := by decide +kernel
theorem dX7_get_41 : decode cX7_get 41 = .ok (.ldc 231, 2) := by decide +kernel
theorem dX7_get_43 : decode cX7_get 43 = .ok (.ireturn, 1) := by decide +kernel
theorem dX7_get_44 : decode cX7_get 44 = .ok (.aload_n 0, 1) := by decide +kernel
theorem dX7_get_45 : decode cX7_get 45 = .ok (.getfield 41, 3) := by decide +kernel
theorem dX7_get_48 : decode cX7_get 48 = .ok (.iload_n 1, 1) := by decide +kernel
theorem dX7_get_49 : decode cX7_get 49 = .ok (.aaload, 1) := by decide +kernel
theorem dX7_get_50 : decode cX7_get 50 = .ok (.getfield 223, 3) := by decide +kernel
theorem dX7_get_53 : decode cX7_get 53 = .ok (.iload_n 3, 1) := by decide +kernel
theorem dX7_get_54 : decode cX7_get 54 = .ok (.iaload, 1) := by decide +kernel
theorem dX7_get_55 : decode cX7_get 55 = .ok (.ireturn, 1) := by decide +kernel
theorem dX7_copy_0 : decode cX7_copy 0 = .ok (.iload_n 1, 1) := by decide +kernel
theorem dX7_copy_1 : decode cX7_copy 1 = .ok (.invokestatic 202, 3) := by decide +kernel
theorem dX7_copy_4 : decode cX7_copy 4 = .ok (.ifCond .eq 10, 3) := by decide +kernel
theorem dX7_copy_7 : decode cX7_copy 7 = .ok (.iload_n 3, 1) := by decide +kernel
theorem dX7_copy_8 : decode cX7_copy 8 = .ok (.invokestatic 202, 3) := by decide +kernel
theorem dX7_copy_11 : decode cX7_copy 11 = .ok (.ifCond .ne 6, 3) := by decide +kernel
theorem dX7_copy_14 : decode cX7_copy 14 = .ok (.bipush (-2), 2) := by decide +kernel
theorem dX7_copy_16 : decode cX7_copy 16 = .ok (.ireturn, 1) := by decide +kernel
theorem dX7_copy_17 : decode cX7_copy 17 = .ok (.aload_n 0, 1) := by decide +kernel
theorem dX7_copy_18 : decode cX7_copy 18 = .ok (.getfield 41, 3) := by decide +kernel
theorem dX7_copy_21 : decode cX7_copy 21 = .ok (.iload_n 1, 1) := by decide +kernel
theorem dX7_copy_22 : decode cX7_copy 22 = .ok (.aaload, 1) := by decide +kernel
theorem dX7_copy_23 : decode cX7_copy 23 = .ok (.astore 6, 2) := by decide +kernel
theorem dX7_copy_25 : decode cX7_copy 25 = .ok (.aload_n 0, 1) := by decide +kernel
theorem dX7_copy_26 : decode cX7_copy 26 = .ok (.getfield 41, 3) := by decide +kernel
theorem dX7_copy_29 : decode cX7_copy 29 = .ok (.iload_n 3, 1) := by decide +kernel
theorem dX7_copy_30 : decode cX7_copy 30 = .ok (.aaload, 1) := by decide +kernel
theorem dX7_copy_31 : decode cX7_copy 31 = .ok (.astore 7, 2) := by decide +kernel
theorem dX7_copy_33 : decode cX7_copy 33 = .ok (.aload 6, 2) := by decide +kernel
theorem dX7_copy_35 : decode cX7_copy 35 = .ok (.invokevirtual 214, 3) := by decide +kernel
theorem dX7_copy_38 : decode cX7_copy 38 = .ok (.ifCond .ne 11, 3) := by decide +kernel
theorem dX7_copy_41 : decode cX7_copy 41 = .ok (.aload 7, 2) := by decide +kernel
theorem dX7_copy_43 : decode cX7_copy 43 = .ok (.invokevirtual 214, 3) := by decide +kernel
theorem dX7_copy_46 : decode cX7_copy 46 = .ok (.ifCond .eq 9, 3) := by decide +kernel
theorem dX7_copy_49 : decode cX7_copy 49 = .ok (.aload_n 0, 1) := by decide +kernel
theorem dX7_copy_50 : decode cX7_copy 50 = .ok (.iconst 1, 1) := by decide +kernel
theorem dX7_copy_51 : decode cX7_copy 51 = .ok (.invokevirtual 208, 3) := by decide +kernel
theorem dX7_copy_54 : decode cX7_copy 54 = .ok (.ireturn, 1) := by decide +kernel
theorem dX7_copy_55 : decode cX7_copy 55 = .ok (.aload 6, 2) := by decide +kernel
theorem dX7_copy_57 : decode cX7_copy 57 = .ok (.getfield 232, 3) := by decide +kernel
theorem dX7_copy_60 : decode cX7_copy 60 = .ok (.aload 7, 2) := by decide +kernel
theorem dX7_copy_62 : decode cX7_copy 62 = .ok (.getfield 232, 3) := by decide +kernel
theorem dX7_copy_65 : decode cX7_copy 65 = .ok (.if_icmp .eq 9, 3) := by decide +kernel
theorem dX7_copy_68 : decode cX7_copy 68 = .ok (.aload_n 0, 1) := by decide +kernel
theorem dX7_copy_69 : decode cX7_copy 69 = .ok (.iconst 4, 1) := by decide +kernel
theorem dX7_copy_70 : decode cX7_copy 70 = .ok (.invokevirtual 208, 3) := by decide +kernel
theorem dX7_copy_73 : decode cX7_copy 73 = .ok (.ireturn, 1) := by decide +kernel
theorem dX7_copy_74 : decode cX7_copy 74 = .ok (.aload 6, 2) := by decide +kernel
theorem dX7_copy_76 : decode cX7_copy 76 = .ok (.iload_n 2, 1) := by decide +kernel
theorem dX7_copy_77 : decode cX7_copy 77 = .ok (.iload 5, 2) := by decide +kernel
theorem dX7_copy_79 : decode cX7_copy 79 = .ok (.invokevirtual 235, 3) := by decide +kernel
theorem dX7_copy_82 : decode cX7_copy 82 = .ok (.ifCond .eq 15, 3) := by decide +kernel
theorem dX7_copy_85 : decode cX7_copy 85 = .ok (.aload 7, 2) := by decide +kernel
theorem dX7_copy_87 : decode cX7_copy 87 = .ok (.iload 4, 2) := by decide +kernel
theorem dX7_copy_89 : decode cX7_copy 89 = .ok (.iload 5, 2) := by decide +kernel
theorem dX7_copy_91 : decode cX7_copy 91 = .ok (.invokevirtual 235, 3) := by decide +kernel
theorem dX7_copy_94 : decode cX7_copy 94 = .ok (.ifCond .ne 9, 3) := by decide +kernel
theorem dX7_copy_97 : decode cX7_copy 97 = .ok (.aload_n 0, 1) := by decide +kernel
theorem dX7_copy_98 : decode cX7_copy 98 = .ok (.iconst 2, 1) := by decide +kernel
theorem dX7_copy_99 : decode cX7_copy 99 = .ok (.invokevirtual 208, 3) := by decide +kernel
theorem dX7_copy_102 : decode cX7_copy 102 = .ok (.ireturn, 1) := by decide +kernel
theorem dX7_copy_103 : decode cX7_copy 103 = .ok (.aload 6, 2) := by decide +kernel
theorem dX7_copy_105 : decode cX7_copy 105 = .ok (.getfield 223, 3) := by decide +kernel
theorem dX7_copy_108 : decode cX7_copy 108 = .ok (.iload_n 2, 1) := by decide +kernel
theorem dX7_copy_109 : decode cX7_copy 109 = .ok (.aload 7, 2) := by decide +kernel
theorem dX7_copy_111 : decode cX7_copy 111 = .ok (.getfield 223, 3) := by decide +kernel
theorem dX7_copy_114 : decode cX7_copy 114 = .ok (.iload 4, 2) := by decide +kernel
theorem dX7_copy_116 : decode cX7_copy 116 = .ok (.iload 5, 2) := by decide +kernel
theorem dX7_copy_118 : decode cX7_copy 118 = .ok (.invokestatic 238, 3) := by decide +kernel
theorem dX7_copy_121 : decode cX7_copy 121 = .ok (.iconst 1, 1) := by decide +kernel
theorem dX7_copy_122 : decode cX7_copy 122 = .ok (.ireturn, 1) := by decide +kernel
theorem dX7_print_0 : decode cX7_print 0 = .ok (.iload_n 1, 1) := by decide +kernel
theorem dX7_print_1 : decode cX7_print 1 = .ok (.invokestatic 202, 3) := by decide +kernel
theorem dX7_print_4 : decode cX7_print 4 = .ok (.ifCond .eq 23, 3) := by decide +kernel
theorem dX7_print_7 : decode cX7_print 7 = .ok (.iload_n 3, 1) := by decide +kernel
theorem dX7_print_8 : decode cX7_print 8 = .ok (.ifCond .lt 19, 3) := by decide +kernel
theorem dX7_print_11 : decode cX7_print 11 = .ok (.iload_n 3, 1) := by decide +kernel
theorem dX7_print_12 : decode cX7_print 12 = .ok (.aload_n 0, 1) := by decide +kernel
theorem dX7_print_13 : decode cX7_print 13 = .ok (.getfield 10, 3) := by decide +kernel
theorem dX7_print_16 : decode cX7_print 16 = .ok (.getfield 101, 3) := by decide +kernel
theorem dX7_print_19 : decode cX7_print 19 = .ok (.if_icmp .ge 8, 3) := by decide +kernel
theorem dX7_print_22 : decode cX7_print 22 = .ok (.iload 4, 2) := by decide +kernel
theorem dX7_print_24 : decode cX7_print 24 = .ok (.ifCond .ge 6, 3) := by decide +kernel
theorem dX7_print_27 : decode cX7_print 27 = .ok (.bipush (-2), 2) := by decide +kernel
theorem dX7_print_29 : decode cX7_print 29 = .ok (.ireturn, 1) := by decide +kernel
theorem dX7_print_30 : decode cX7_print 30 = .ok (.aload_n 0, 1) := by decide +kernel
theorem dX7_print_31 : decode cX7_print 31 = .ok (.getfield 35, 3) := by decide +kernel
theorem dX7_print_34 : decode cX7_print 34 = .ok (.invokevirtual 195, 3) := by decide +kernel
theorem dX7_print_37 : decode cX7_print 37 = .ok (.ifCond .ne 6, 3) := by decide +kernel
theorem dX7_print_40 : decode cX7_print 40 = .ok (.bipush (-3), 2) := by decide +kernel
theorem dX7_print_42 : decode cX7_print 42 = .ok (.ireturn, 1) := by decide +kernel
theorem dX7_print_43 : decode cX7_print 43 = .ok (.aload_n 0, 1) := by decide +kernel
theorem dX7_print_44 : decode cX7_print 44 = .ok (.getfield 41, 3) := by decide +kernel
theorem dX7_print_47 : decode cX7_print 47 = .ok (.iload_n 1, 1) := by decide +kernel
theorem dX7_print_48 : decode cX7_print 48 = .ok (.aaload, 1) := by decide +kernel
theorem dX7_print_49 : decode cX7_print 49 = .ok (.invokevirtual 214, 3) := by decide +kernel
theorem dX7_print_52 : decode cX7_print 52 = .ok (.ifCond .eq 9, 3) := by decide +kernel
theorem dX7_print_55 : decode cX7_print 55 = .ok (.aload_n 0, 1) := by decide +kernel
theorem dX7_print_56 : decode cX7_print 56 = .ok (.iconst 1, 1) := by decide +kernel
theorem dX7_print_57 : decode cX7_print 57 = .ok (.invokevirtual 208, 3) := by decide +kernel
theorem dX7_print_60 : decode cX7_print 60 = .ok (.ireturn, 1) := by decide +kernel
theorem dX7_print_61 : decode cX7_print 61 = .ok (.aload_n 0, 1) := by decide +kernel
theorem dX7_print_62 : decode cX7_print 62 = .ok (.getfield 41, 3) := by decide +kernel
theorem dX7_print_65 : decode cX7_print 65 = .ok (.iload_n 1, 1) := by decide +kernel
theorem dX7_print_66 : decode cX7_print 66 = .ok (.aaload, 1) := by decide +kernel
theorem dX7_print_67 : decode cX7_print 67 = .ok (.iload_n 2, 1) := by decide +kernel
theorem dX7_print_68 : decode cX7_print 68 = .ok (.iload 4, 2) := by decide +kernel
theorem dX7_print_70 : decode cX7_print 70 = .ok (.invokevirtual 235, 3) := by decide +kernel
theorem dX7_print_73 : decode cX7_print 73 = .ok (.ifCond .ne 9, 3) := by decide +kernel
theorem dX7_print_76 : decode cX7_print 76 = .ok (.aload_n 0, 1) := by decide +kernel
theorem dX7_print_77 : decode cX7_print 77 = .ok (.iconst 2, 1) := by decide +kernel
theorem dX7_print_78 : decode cX7_print 78 = .ok (.invokevirtual 208, 3) := by decide +kernel
theorem dX7_print_81 : decode cX7_print 81 = .ok (.ireturn, 1) := by decide +kernel
theorem dX7_print_82 : decode cX7_print 82 = .ok (.aload_n 0, 1) := by decide +kernel
theorem dX7_print_83 : decode cX7_print 83 = .ok (.getfield 35, 3) := by decide +kernel
theorem dX7_print_86 : decode cX7_print 86 = .ok (.iload_n 3, 1) := by decide +kernel
theorem dX7_print_87 : decode cX7_print 87 = .ok (.iload 4, 2) := by decide +kernel
theorem dX7_print_89 : decode cX7_print 89 = .ok (.aload_n 0, 1) := by decide +kernel
theorem dX7_print_90 : decode cX7_print 90 = .ok (.getfield 41, 3) := by decide +kernel
theorem dX7_print_93 : decode cX7_print 93 = .ok (.iload_n 1, 1) := by decide +kernel
theorem dX7_print_94 : decode cX7_print 94 = .ok (.aaload, 1) := by decide +kernel
theorem dX7_print_95 : decode cX7_print 95 = .ok (.getfield 223, 3) := by decide +kernel
theorem dX7_print_98 : decode cX7_print 98 = .ok (.iload_n 2, 1) := by decide +kernel
theorem dX7_print_99 : decode cX7_print 99 = .ok (.invokevirtual 244, 3) := by decide +kernel
theorem dX7_print_102 : decode cX7_print 102 = .ok (.iload 4, 2) := by decide +kernel
theorem dX7_print_104 : decode cX7_print 104 = .ok (.ireturn, 1) := by decide +kernel
theorem dX7_find_0 : decode cX7_find 0 = .ok (.iload_n 1, 1) := by decide +kernel
theorem dX7_find_1 : decode cX7_find 1 = .ok (.invokestatic 202, 3) := by decide +kernel
theorem dX7_find_4 : decode cX7_find 4 = .ok (.ifCond .eq 26, 3) := by decide +kernel
theorem dX7_find_7 : decode cX7_find 7 = .ok (.iload_n 3, 1) := by decide +kernel
theorem dX7_find_8 : decode cX7_find 8 = .ok (.iconst 1, 1) := by decide +kernel
theorem dX7_find_9 : decode cX7_find 9 = .ok (.if_icmp .lt 21, 3) := by decide +kernel
theorem dX7_find_12 : decode cX7_find 12 = .ok (.iload_n 3, 1) := by decide +kernel
theorem dX7_find_13 : decode cX7_find 13 = .ok (.bipush 40, 2) := by decide +kernel
theorem dX7_find_15 : decode cX7_find 15 = .ok (.if_icmp .gt 15, 3) := by decide +kernel
theorem dX7_find_18 : decode cX7_find 18 = .ok (.iload 4, 2) := by decide +kernel
theorem dX7_find_20 : decode cX7_find 20 = .ok (.ifCond .lt 10, 3) := by decide +kernel
theorem dX7_find_23 : decode cX7_find 23 = .ok (.iload 4, 2) := by decide +kernel
theorem dX7_find_25 : decode cX7_find 25 = .ok (.bipush 40, 2) := by decide +kernel
theorem dX7_find_27 : decode cX7_find 27 = .ok (.if_icmp .le 6, 3) := by decide +kernel
theorem dX7_find_30 : decode cX7_find 30 = .ok (.bipush (-2), 2) := by decide +kernel
theorem dX7_find_32 : decode cX7_find 32 = .ok (.ireturn, 1) := by decide +kernel
theorem dX7_find_33 : decode cX7_find 33 = .ok (.aload_n 0, 1) := by decide +kernel
theorem dX7_find_34 : decode cX7_find 34 = .ok (.getfield 35, 3) := by decide +kernel
theorem dX7_find_37 : decode cX7_find 37 = .ok (.invokevirtual 195, 3) := by decide +kernel
theorem dX7_find_40 : decode cX7_find 40 = .ok (.ifCond .ne 6, 3) := by decide +kernel
theorem dX7_find_43 : decode cX7_find 43 = .ok (.bipush (-3), 2) := by decide +kernel
theorem dX7_find_45 : decode cX7_find 45 = .ok (.ireturn, 1) := by decide +kernel
theorem dX7_find_46 : decode cX7_find 46 = .ok (.aload_n 0, 1) := by decide +kernel
theorem dX7_find_47 : decode cX7_find 47 = .ok (.getfield 41, 3) := by decide +kernel
theorem dX7_find_50 : decode cX7_find 50 = .ok (.iload_n 1, 1) := by decide +kernel
theorem dX7_find_51 : decode cX7_find 51 = .ok (.aaload, 1) := by decide +kernel
theorem dX7_find_52 : decode cX7_find 52 = .ok (.invokevirtual 214, 3) := by decide +kernel
theorem dX7_find_55 : decode cX7_find 55 = .ok (.ifCond .eq 9, 3) := by decide +kernel
theorem dX7_find_58 : decode cX7_find 58 = .ok (.aload_n 0, 1) := by decide +kernel
theorem dX7_find_59 : decode cX7_find 59 = .ok (.iconst 1, 1) := by decide +kernel
theorem dX7_find_60 : decode cX7_find 60 = .ok (.invokevirtual 208, 3) := by decide +kernel
theorem dX7_find_63 : decode cX7_find 63 = .ok (.ireturn, 1) := by decide +kernel
theorem dX7_find_64 : decode cX7_find 64 = .ok (.aload_n 0, 1) := by decide +kernel
theorem dX7_find_65 : decode cX7_find 65 = .ok (.getfield 41, 3) := by decide +kernel
theorem dX7_find_68 : decode cX7_find 68 = .ok (.iload_n 1, 1) := by decide +kernel
theorem dX7_find_69 : decode cX7_find 69 = .ok (.aaload, 1) := by decide +kernel
theorem dX7_find_70 : decode cX7_find 70 = .ok (.iload_n 2, 1) := by decide +kernel
theorem dX7_find_71 : decode cX7_find 71 = .ok (.iload_n 3, 1) := by decide +kernel
theorem dX7_find_72 : decode cX7_find 72 = .ok (.invokevirtual 235, 3) := by decide +kernel
theorem dX7_find_75 : decode cX7_find 75 = .ok (.ifCond .ne 9, 3) := by decide +kernel
theorem dX7_find_78 : decode cX7_find 78 = .ok (.aload_n 0, 1) := by decide +kernel
theorem dX7_find_79 : decode cX7_find 79 = .ok (.iconst 2, 1) := by decide +kernel
theorem dX7_find_80 : decode cX7_find 80 = .ok (.invokevirtual 208, 3) := by decide +kernel
theorem dX7_find_83 : decode cX7_find 83 = .ok (.ireturn, 1) := by decide +kernel
theorem dX7_find_84 : decode cX7_find 84 = .ok (.aload_n 0, 1) := by decide +kernel
theorem dX7_find_85 : decode cX7_find 85 = .ok (.getfield 35, 3) := by decide +kernel
theorem dX7_find_88 : decode cX7_find 88 = .ok (.aload_n 0, 1) := by decide +kernel
theorem dX7_find_89 : decode cX7_find 89 = .ok (.getfield 41, 3) := by decide +kernel
theorem dX7_find_92 : decode cX7_find 92 = .ok (.iload_n 1, 1) := by decide +kernel
theorem dX7_find_93 : decode cX7_find 93 = .ok (.aaload, 1) := by decide +kernel
theorem dX7_find_94 : decode cX7_find 94 = .ok (.getfield 223, 3) := by decide +kernel
theorem dX7_find_97 : decode cX7_find 97 = .ok (.iload_n 2, 1) := by decide +kernel
theorem dX7_find_98 : decode cX7_find 98 = .ok (.iload_n 3, 1) := by decide +kernel
theorem dX7_find_99 : decode cX7_find 99 = .ok (.iload 4, 2) := by decide +kernel
theorem dX7_find_101 : decode cX7_find 101 = .ok (.invokevirtual 248, 3) := by decide +kernel
theorem dX7_find_104 : decode cX7_find 104 = .ok (.istore 5, 2) := by decide +kernel
theorem dX7_find_106 : decode cX7_find 106 = .ok (.iload 5, 2) := by decide +kernel
theorem dX7_find_108 : decode cX7_find 108 = .ok (.ifCond .le 14, 3) := by decide +kernel
theorem dX7_find_111 : decode cX7_find 111 = .ok (.aload_n 0, 1) := by decide +kernel
theorem dX7_find_112 : decode cX7_find 112 = .ok (.aload_n 0, 1) := by decide +kernel
theorem dX7_find_113 : decode cX7_find 113 = .ok (.getfield 35, 3) := by decide +kernel
theorem dX7_find_116 : decode cX7_find 116 = .ok (.getfield 252, 3) := by decide +kernel
theorem dX7_find_119 : decode cX7_find 119 = .ok (.putfield 60, 3) := by decide +kernel
theorem dX7_find_122 : decode cX7_find 122 = .ok (.iload 5, 2) := by decide +kernel
theorem dX7_find_124 : decode cX7_find 124 = .ok (.ireturn, 1) := by decide +kernel
theorem dX7_found_0 : decode cX7_found 0 = .ok (.aload_n 0, 1) := by decide +kernel
theorem dX7_found_1 : decode cX7_found 1 = .ok (.getfield 60, 3) := by decide +kernel
theorem dX7_found_4 : decode cX7_found 4 = .ok (.ireturn, 1) := by decide +kernel
theorem dX7_twice_0 : decode cX7_twice 0 = .ok (.iload_n 1, 1) := by decide +kernel
theorem dX7_twice_1 : decode cX7_twice 1 = .ok (.invokestatic 202, 3) := by decide +kernel
theorem dX7_twice_4 : decode cX7_twice 4 = .ok (.ifCond .ne 6, 3) := by decide +kernel
theorem dX7_twice_7 : decode cX7_twice 7 = .ok (.bipush (-2), 2) := by decide +kernel
theorem dX7_twice_9 : decode cX7_twice 9 = .ok (.ireturn, 1) := by decide +kernel
theorem dX7_twice_10 : decode cX7_twice 10 = .ok (.aload_n 0, 1) := by decide +kernel
theorem dX7_twice_11 : decode cX7_twice 11 = .ok (.getfield 41, 3) := by decide +kernel
theorem dX7_twice_14 : decode cX7_twice 14 = .ok (.iload_n 1, 1) := by decide +kernel
theorem dX7_twice_15 : decode cX7_twice 15 = .ok (.aaload, 1) := by decide +kernel
theorem dX7_twice_16 : decode cX7_twice 16 = .ok (.astore_n 2, 1) := by decide +kernel
theorem dX7_twice_17 : decode cX7_twice 17 = .ok (.aload_n 2, 1) := by decide +kernel
theorem dX7_twice_18 : decode cX7_twice 18 = .ok (.invokevirtual 214, 3) := by decide +kernel
theorem dX7_twice_21 : decode cX7_twice 21 = .ok (.ifCond .eq 9, 3) := by decide +kernel
theorem dX7_twice_24 : decode cX7_twice 24 = .ok (.aload_n 0, 1) := by decide +kernel
theorem dX7_twice_25 : decode cX7_twice 25 = .ok (.iconst 1, 1) := by decide +kernel
theorem dX7_twice_26 : decode cX7_twice 26 = .ok (.invokevirtual 208, 3) := by decide +kernel
theorem dX7_twice_29 : decode cX7_twice 29 = .ok (.ireturn, 1) := by decide +kernel
theorem dX7_twice_30 : decode cX7_twice 30 = .ok (.aload_n 2, 1) := by decide +kernel
theorem dX7_twice_31 : decode cX7_twice 31 = .ok (.getfield 255, 3) := by decide +kernel
theorem dX7_twice_34 : decode cX7_twice 34 = .ok (.ifCond .eq 10, 3) := by decide +kernel
theorem dX7_twice_37 : decode cX7_twice 37 = .ok (.aload_n 2, 1) := by decide +kernel
theorem dX7_twice_38 : decode cX7_twice 38 = .ok (.invokevirtual 256, 3) := by decide +kernel
theorem dX7_twice_41 : decode cX7_twice 41 = .ok (.ifCond .eq 8, 3) := by decide +kernel
theorem dX7_twice_44 : decode cX7_twice 44 = .ok (.bipush (-3), 2) := by decide +kernel
theorem dX7_twice_46 : decode cX7_twice 46 = .ok (.goto 7, 3) := by decide +kernel
theorem dX7_twice_49 : decode cX7_twice 49 = .ok (.aload_n 2, 1) := by decide +kernel
theorem dX7_twice_50 : decode cX7_twice 50 = .ok (.invokevirtual 259, 3) := by decide +kernel
theorem dX7_twice_53 : decode cX7_twice 53 = .ok (.ireturn, 1) := by decide +kernel
theorem dX7_parts_0 : decode cX7_parts 0 = .ok (.iload_n 1, 1) := by decide +kernel
theorem dX7_parts_1 : decode cX7_parts 1 = .ok (.invokestatic 202, 3) := by decide +kernel
theorem dX7_parts_4 : decode cX7_parts 4 = .ok (.ifCond .ne 6, 3) := by decide +kernel
theorem dX7_parts_7 : decode cX7_parts 7 = .ok (.bipush (-2), 2) := by decide +kernel
theorem dX7_parts_9 : decode cX7_parts 9 = .ok (.ireturn, 1) := by decide +kernel
theorem dX7_parts_10 : decode cX7_parts 10 = .ok (.aload_n 0, 1) := by decide +kernel
theorem dX7_parts_11 : decode cX7_parts 11 = .ok (.getfield 41, 3) := by decide +kernel
theorem dX7_parts_14 : decode cX7_parts 14 = .ok (.iload_n 1, 1) := by decide +kernel
theorem dX7_parts_15 : decode cX7_parts 15 = .ok (.aaload, 1) := by decide +kernel
theorem dX7_parts_16 : decode cX7_parts 16 = .ok (.astore_n 2, 1) := by decide +kernel
theorem dX7_parts_17 : decode cX7_parts 17 = .ok (.aload_n 2, 1) := by decide +kernel
theorem dX7_parts_18 : decode cX7_parts 18 = .ok (.invokevirtual 214, 3) := by decide +kernel
theorem dX7_parts_21 : decode cX7_parts 21 = .ok (.ifCond .eq 9, 3) := by decide +kernel
theorem dX7_parts_24 : decode cX7_parts 24 = .ok (.aload_n 0, 1) := by decide +kernel
theorem dX7_parts_25 : decode cX7_parts 25 = .ok (.iconst 1, 1) := by decide +kernel
theorem dX7_parts_26 : decode cX7_parts 26 = .ok (.invokevirtual 208, 3) := by decide +kernel
theorem dX7_parts_29 : decode cX7_parts 29 = .ok (.ireturn, 1) := by decide +kernel
theorem dX7_parts_30 : decode cX7_parts 30 = .ok (.aload_n 2, 1) := by decide +kernel
theorem dX7_parts_31 : decode cX7_parts 31 = .ok (.invokevirtual 256, 3) := by decide +kernel
theorem dX7_parts_34 : decode cX7_parts 34 = .ok (.ifCond .eq 8, 3) := by decide +kernel
theorem dX7_parts_37 : decode cX7_parts 37 = .ok (.bipush (-3), 2) := by decide +kernel
theorem dX7_parts_39 : decode cX7_parts 39 = .ok (.goto 18, 3) := by decide +kernel
theorem dX7_parts_42 : decode cX7_parts 42 = .ok (.aload_n 0, 1) := by decide +kernel
theorem dX7_parts_43 : decode cX7_parts 43 = .ok (.getfield 49, 3) := by decide +kernel
theorem dX7_parts_46 : decode cX7_parts 46 = .ok (.aload_n 2, 1) := by decide +kernel
theorem dX7_parts_47 : decode cX7_parts 47 = .ok (.getfield 223, 3) := by decide +kernel
theorem dX7_parts_50 : decode cX7_parts 50 = .ok (.aload_n 2, 1) := by decide +kernel
theorem dX7_parts_51 : decode cX7_parts 51 = .ok (.getfield 255, 3) := by decide +kernel
theorem dX7_parts_54 : decode cX7_parts 54 = .ok (.invokevirtual 262, 3) := by decide +kernel
theorem dX7_parts_57 : decode cX7_parts 57 = .ok (.ireturn, 1) := by decide +kernel
theorem dX7_part_0 : decode cX7_part 0 = .ok (.iload_n 1, 1) := by decide +kernel
theorem dX7_part_1 : decode cX7_part 1 = .ok (.ifCond .lt 14, 3) := by decide +kernel
theorem dX7_part_4 : decode cX7_part 4 = .ok (.iload_n 1, 1) := by decide +kernel
theorem dX7_part_5 : decode cX7_part 5 = .ok (.aload_n 0, 1) := by decide +kernel
theorem dX7_part_6 : decode cX7_part 6 = .ok (.getfield 49, 3) := by decide +kernel
theorem dX7_part_9 : decode cX7_part 9 = .ok (.getfield 266, 3) := by decide +kernel
theorem dX7_part_12 : decode cX7_part 12 = .ok (.if_icmp .lt 8, 3) := by decide +kernel
theorem dX7_part_15 : decode cX7_part 15 = .ok (.bipush (-2), 2) := by decide +kernel
theorem dX7_part_17 : decode cX7_part 17 = .ok (.goto 12, 3) := by decide +kernel
theorem dX7_part_20 : decode cX7_part 20 = .ok (.aload_n 0, 1) := by decide +kernel
theorem dX7_part_21 : decode cX7_part 21 = .ok (.getfield 49, 3) := by decide +kernel
theorem dX7_part_24 : decode cX7_part 24 = .ok (.getfield 269, 3) := by decide +kernel
theorem dX7_part_27 : decode cX7_part 27 = .ok (.iload_n 1, 1) := by decide +kernel
theorem dX7_part_28 : decode cX7_part 28 = .ok (.iaload, 1) := by decide +kernel
theorem dX7_part_29 : decode cX7_part 29 = .ok (.ireturn, 1) := by decide +kernel
theorem dX7_recurrence_0 : decode cX7_recurrence 0 = .ok (.iload_n 1, 1) := by decide +kernel
theorem dX7_recurrence_1 : decode cX7_recurrence 1 = .ok (.invokestatic 202, 3) := by decide +kernel
theorem dX7_recurrence_4 : decode cX7_recurrence 4 = .ok (.ifCond .ne 6, 3) := by decide +kernel
theorem dX7_recurrence_7 : decode cX7_recurrence 7 = .ok (.bipush (-2), 2) := by decide +kernel
theorem dX7_recurrence_9 : decode cX7_recurrence 9 = .ok (.ireturn, 1) := by decide +kernel
theorem dX7_recurrence_10 : decode cX7_recurrence 10 = .ok (.aload_n 0, 1) := by decide +kernel
theorem dX7_recurrence_11 : decode cX7_recurrence 11 = .ok (.getfield 41, 3) := by decide +kernel
theorem dX7_recurrence_14 : decode cX7_recurrence 14 = .ok (.iload_n 1, 1) := by decide +kernel
theorem dX7_recurrence_15 : decode cX7_recurrence 15 = .ok (.aaload, 1) := by decide +kernel
theorem dX7_recurrence_16 : decode cX7_recurrence 16 = .ok (.astore_n 2, 1) := by decide +kernel
theorem dX7_recurrence_17 : decode cX7_recurrence 17 = .ok (.aload_n 2, 1) := by decide +kernel
theorem dX7_recurrence_18 : decode cX7_recurrence 18 = .ok (.invokevirtual 214, 3) := by decide +kernel
theorem dX7_recurrence_21 : decode cX7_recurrence 21 = .ok (.ifCond .eq 9, 3) := by decide +kernel
theorem dX7_recurrence_24 : decode cX7_recurrence 24 = .ok (.aload_n 0, 1) := by decide +kernel
theorem dX7_recurrence_25 : decode cX7_recurrence 25 = .ok (.iconst 1, 1) := by decide +kernel
theorem dX7_recurrence_26 : decode cX7_recurrence 26 = .ok (.invokevirtual 208, 3) := by decide +kernel
theorem dX7_recurrence_29 : decode cX7_recurrence 29 = .ok (.ireturn, 1) := by decide +kernel
theorem dX7_recurrence_30 : decode cX7_recurrence 30 = .ok (.aload_n 0, 1) := by decide +kernel
theorem dX7_recurrence_31 : decode cX7_recurrence 31 = .ok (.getfield 10, 3) := by decide +kernel
theorem dX7_recurrence_34 : decode cX7_recurrence 34 = .ok (.getfield 272, 3) := by decide +kernel
theorem dX7_recurrence_37 : decode cX7_recurrence 37 = .ok (.iconst 4, 1) := by decide +kernel
theorem dX7_recurrence_38 : decode cX7_recurrence 38 = .ok (.if_icmp .eq 10, 3) := by decide +kernel
theorem dX7_recurrence_41 : decode cX7_recurrence 41 = .ok (.aload_n 2, 1) := by decide +kernel
theorem dX7_recurrence_42 : decode cX7_recurrence 42 = .ok (.invokevirtual 256, 3) := by decide +kernel
theorem dX7_recurrence_45 : decode cX7_recurrence 45 = .ok (.ifCond .eq 6, 3) := by decide +kernel
theorem dX7_recurrence_48 : decode cX7_recurrence 48 = .ok (.bipush (-3), 2) := by decide +kernel
theorem dX7_recurrence_50 : decode cX7_recurrence 50 = .ok (.ireturn, 1) := by decide +kernel
theorem dX7_recurrence_51 : decode cX7_recurrence 51 = .ok (.aload_n 0, 1) := by decide +kernel
theorem dX7_recurrence_52 : decode cX7_recurrence 52 = .ok (.getfield 56, 3) := by decide +kernel
theorem dX7_recurrence_55 : decode cX7_recurrence 55 = .ok (.aload_n 2, 1) := by decide +kernel
theorem dX7_recurrence_56 : decode cX7_recurrence 56 = .ok (.getfield 223, 3) := by decide +kernel
theorem dX7_recurrence_59 : decode cX7_recurrence 59 = .ok (.aload_n 2, 1) := by decide +kernel
theorem dX7_recurrence_60 : decode cX7_recurrence 60 = .ok (.getfield 255, 3) := by decide +kernel
theorem dX7_recurrence_63 : decode cX7_recurrence 63 = .ok (.aload_n 0, 1) := by decide +kernel
theorem dX7_recurrence_64 : decode cX7_recurrence 64 = .ok (.getfield 10, 3) := by decide +kernel
theorem dX7_recurrence_67 : decode cX7_recurrence 67 = .ok (.getfield 272, 3) := by decide +kernel
theorem dX7_recurrence_70 : decode cX7_recurrence 70 = .ok (.invokevirtual 274, 3) := by decide +kernel
theorem dX7_recurrence_73 : decode cX7_recurrence 73 = .ok (.ireturn, 1) := by decide +kernel
theorem dX7_coefficient_0 : decode cX7_coefficient 0 = .ok (.iload_n 1, 1) := by decide +kernel
theorem dX7_coefficient_1 : decode cX7_coefficient 1 = .ok (.iconst 1, 1) := by decide +kernel
theorem dX7_coefficient_2 : decode cX7_coefficient 2 = .ok (.if_icmp .lt 14, 3) := by decide +kernel
theorem dX7_coefficient_5 : decode cX7_coefficient 5 = .ok (.iload_n 1, 1) := by decide +kernel
theorem dX7_coefficient_6 : decode cX7_coefficient 6 = .ok (.aload_n 0, 1) := by decide +kernel
theorem dX7_coefficient_7 : decode cX7_coefficient 7 = .ok (.getfield 56, 3) := by decide +kernel
theorem dX7_coefficient_10 : decode cX7_coefficient 10 = .ok (.getfield 278, 3) := by decide +kernel
theorem dX7_coefficient_13 : decode cX7_coefficient 13 = .ok (.if_icmp .le 8, 3) := by decide +kernel
theorem dX7_coefficient_16 : decode cX7_coefficient 16 = .ok (.bipush (-2), 2) := by decide +kernel
theorem dX7_coefficient_18 : decode cX7_coefficient 18 = .ok (.goto 11, 3) := by decide +kernel
theorem dX7_coefficient_21 : decode cX7_coefficient 21 = .ok (.aload_n 0, 1) := by decide +kernel
theorem dX7_coefficient_22 : decode cX7_coefficient 22 = .ok (.getfield 56, 3) := by decide +kernel
theorem dX7_coefficient_25 : decode cX7_coefficient 25 = .ok (.iload_n 1, 1) := by decide +kernel
theorem dX7_coefficient_26 : decode cX7_coefficient 26 = .ok (.invokevirtual 279, 3) := by decide +kernel
theorem dX7_coefficient_29 : decode cX7_coefficient 29 = .ok (.ireturn, 1) := by decide +kernel
theorem dX7_count_0 : decode cX7_count 0 = .ok (.iload_n 1, 1) := by decide +kernel
theorem dX7_count_1 : decode cX7_count 1 = .ok (.tableswitch 84 0 5 #[39, 47, 55, 63, 71, 79], 39) := by decide +kernel
theorem dX7_count_40 : decode cX7_count 40 = .ok (.aload_n 0, 1) := by decide +kernel
theorem dX7_count_41 : decode cX7_count 41 = .ok (.getfield 10, 3) := by decide +kernel
theorem dX7_count_44 : decode cX7_count 44 = .ok (.getfield 272, 3) := by decide +kernel
theorem dX7_count_47 : decode cX7_count 47 = .ok (.ireturn, 1) := by decide +kernel
theorem dX7_count_48 : decode cX7_count 48 = .ok (.aload_n 0, 1) := by decide +kernel
theorem dX7_count_49 : decode cX7_count 49 = .ok (.getfield 10, 3) := by decide +kernel
theorem dX7_count_52 : decode cX7_count 52 = .ok (.getfield 114, 3) := by decide +kernel
theorem dX7_count_55 : decode cX7_count 55 = .ok (.ireturn, 1) := by decide +kernel
theorem dX7_count_56 : decode cX7_count 56 = .ok (.aload_n 0, 1) := by decide +kernel
theorem dX7_count_57 : decode cX7_count 57 = .ok (.getfield 10, 3) := by decide +kernel
theorem dX7_count_60 : decode cX7_count 60 = .ok (.getfield 101, 3) := by decide +kernel
theorem dX7_count_63 : decode cX7_count 63 = .ok (.ireturn, 1) := by decide +kernel
theorem dX7_count_64 : decode cX7_count 64 = .ok (.aload_n 0, 1) := by decide +kernel
theorem dX7_count_65 : decode cX7_count 65 = .ok (.getfield 28, 3) := by decide +kernel
theorem dX7_count_68 : decode cX7_count 68 = .ok (.getfield 153, 3) := by decide +kernel
theorem dX7_count_71 : decode cX7_count 71 = .ok (.ireturn, 1) := by decide +kernel
theorem dX7_count_72 : decode cX7_count 72 = .ok (.aload_n 0, 1) := by decide +kernel
theorem dX7_count_73 : decode cX7_count 73 = .ok (.getfield 35, 3) := by decide +kernel
theorem dX7_count_76 : decode cX7_count 76 = .ok (.getfield 282, 3) := by decide +kernel
theorem dX7_count_79 : decode cX7_count 79 = .ok (.ireturn, 1) := by decide +kernel
theorem dX7_count_80 : decode cX7_count 80 = .ok (.aload_n 0, 1) := by decide +kernel
theorem dX7_count_81 : decode cX7_count 81 = .ok (.getfield 64, 3) := by decide +kernel
theorem dX7_count_84 : decode cX7_count 84 = .ok (.ireturn, 1) := by decide +kernel
theorem dX7_count_85 : decode cX7_count 85 = .ok (.bipush (-2), 2) := by decide +kernel
theorem dX7_count_87 : decode cX7_count 87 = .ok (.ireturn, 1) := by decide +kernel
theorem dX7_digest_0 : decode cX7_digest 0 = .ok (.ldc2_w 285, 3) := by decide +kernel
theorem dX7_digest_3 : decode cX7_digest 3 = .ok (.lstore_n 1, 1) := by decide +kernel
theorem dX7_digest_4 : decode cX7_digest 4 = .ok (.iconst 0, 1) := by decide +kernel
theorem dX7_digest_5 : decode cX7_digest 5 = .ok (.istore_n 3, 1) := by decide +kernel
theorem dX7_digest_6 : decode cX7_digest 6 = .ok (.iload_n 3, 1) := by decide +kernel
theorem dX7_digest_7 : decode cX7_digest 7 = .ok (.iconst 5, 1) := by decide +kernel
theorem dX7_digest_8 : decode cX7_digest 8 = .ok (.if_icmp .ge 22, 3) := by decide +kernel
theorem dX7_digest_11 : decode cX7_digest 11 = .ok (.ldc2_w 287, 3) := by decide +kernel
theorem dX7_digest_14 : decode cX7_digest 14 = .ok (.lload_n 1, 1) := by decide +kernel
theorem dX7_digest_15 : decode cX7_digest 15 = .ok (.lmul, 1) := by decide +kernel
theorem dX7_digest_16 : decode cX7_digest 16 = .ok (.aload_n 0, 1) := by decide +kernel
theorem dX7_digest_17 : decode cX7_digest 17 = .ok (.iload_n 3, 1) := by decide +kernel
theorem dX7_digest_18 : decode cX7_digest 18 = .ok (.invokevirtual 289, 3) := by decide +kernel
theorem dX7_digest_21 : decode cX7_digest 21 = .ok (.i2l, 1) := by decide +kernel
theorem dX7_digest_22 : decode cX7_digest 22 = .ok (.ladd, 1) := by decide +kernel
theorem dX7_digest_23 : decode cX7_digest 23 = .ok (.lstore_n 1, 1) := by decide +kernel
theorem dX7_digest_24 : decode cX7_digest 24 = .ok (.iinc 3 1, 3) := by decide +kernel
theorem dX7_digest_27 : decode cX7_digest 27 = .ok (.goto (-21), 3) := by decide +kernel
theorem dX7_digest_30 : decode cX7_digest 30 = .ok (.aload_n 0, 1) := by decide +kernel
theorem dX7_digest_31 : decode cX7_digest 31 = .ok (.getfield 28, 3) := by decide +kernel
theorem dX7_digest_34 : decode cX7_digest 34 = .ok (.invokevirtual 180, 3) := by decide +kernel
theorem dX7_digest_37 : decode cX7_digest 37 = .ok (.astore_n 3, 1) := by decide +kernel
theorem dX7_digest_38 : decode cX7_digest 38 = .ok (.iconst 0, 1) := by decide +kernel
theorem dX7_digest_39 : decode cX7_digest 39 = .ok (.istore 4, 2) := by decide +kernel
theorem dX7_digest_41 : decode cX7_digest 41 = .ok (.iload 4, 2) := by decide +kernel
theorem dX7_digest_43 : decode cX7_digest 43 = .ok (.aload_n 0, 1) := by decide +kernel
theorem dX7_digest_44 : decode cX7_digest 44 = .ok (.getfield 10, 3) := by decide +kernel
theorem dX7_digest_47 : decode cX7_digest 47 = .ok (.getfield 101, 3) := by decide +kernel
theorem dX7_digest_50 : decode cX7_digest 50 = .ok (.if_icmp .ge 21, 3) := by decide +kernel
theorem dX7_digest_53 : decode cX7_digest 53 = .ok (.ldc2_w 287, 3) := by decide +kernel
theorem dX7_digest_56 : decode cX7_digest 56 = .ok (.lload_n 1, 1) := by decide +kernel
theorem dX7_digest_57 : decode cX7_digest 57 = .ok (.lmul, 1) := by decide +kernel
theorem dX7_digest_58 : decode cX7_digest 58 = .ok (.aload_n 3, 1) := by decide +kernel
theorem dX7_digest_59 : decode cX7_digest 59 = .ok (.iload 4, 2) := by decide +kernel
theorem dX7_digest_61 : decode cX7_digest 61 = .ok (.iaload, 1) := by decide +kernel
theorem dX7_digest_62 : decode cX7_digest 62 = .ok (.i2l, 1) := by decide +kernel
theorem dX7_digest_63 : decode cX7_digest 63 = .ok (.ladd, 1) := by decide +kernel
theorem dX7_digest_64 : decode cX7_digest 64 = .ok (.lstore_n 1, 1) := by decide +kernel
theorem dX7_digest_65 : decode cX7_digest 65 = .ok (.iinc 4 1, 3) := by decide +kernel
theorem dX7_digest_68 : decode cX7_digest 68 = .ok (.goto (-27), 3) := by decide +kernel
theorem dX7_digest_71 : decode cX7_digest 71 = .ok (.aload_n 0, 1) := by decide +kernel
theorem dX7_digest_72 : decode cX7_digest 72 = .ok (.getfield 35, 3) := by decide +kernel
theorem dX7_digest_75 : decode cX7_digest 75 = .ok (.invokevirtual 195, 3) := by decide +kernel
theorem dX7_digest_78 : decode cX7_digest 78 = .ok (.ifCond .eq 42, 3) := by decide +kernel
theorem dX7_digest_81 : decode cX7_digest 81 = .ok (.iconst 0, 1) := by decide +kernel
theorem dX7_digest_82 : decode cX7_digest 82 = .ok (.istore 4, 2) := by decide +kernel
theorem dX7_digest_84 : decode cX7_digest 84 = .ok (.iload 4, 2) := by decide +kernel
theorem dX7_digest_86 : decode cX7_digest 86 = .ok (.aload_n 0, 1) := by decide +kernel
theorem dX7_digest_87 : decode cX7_digest 87 = .ok (.getfield 10, 3) := by decide +kernel
theorem dX7_digest_90 : decode cX7_digest 90 = .ok (.getfield 101, 3) := by decide +kernel
theorem dX7_digest_93 : decode cX7_digest 93 = .ok (.if_icmp .ge 27, 3) := by decide +kernel
theorem dX7_digest_96 : decode cX7_digest 96 = .ok (.ldc2_w 287, 3) := by decide +kernel
theorem dX7_digest_99 : decode cX7_digest 99 = .ok (.lload_n 1, 1) := by decide +kernel
theorem dX7_digest_100 : decode cX7_digest 100 = .ok (.lmul, 1) := by decide +kernel
theorem dX7_digest_101 : decode cX7_digest 101 = .ok (.aload_n 0, 1) := by decide +kernel
theorem dX7_digest_102 : decode cX7_digest 102 = .ok (.getfield 35, 3) := by decide +kernel
theorem dX7_digest_105 : decode cX7_digest 105 = .ok (.getfield 191, 3) := by decide +kernel
theorem dX7_digest_108 : decode cX7_digest 108 = .ok (.iload 4, 2) := by decide +kernel
theorem dX7_digest_110 : decode cX7_digest 110 = .ok (.baload, 1) := by decide +kernel
theorem dX7_digest_111 : decode cX7_digest 111 = .ok (.i2l, 1) := by decide +kernel
theorem dX7_digest_112 : decode cX7_digest 112 = .ok (.ladd, 1) := by decide +kernel
theorem dX7_digest_113 : decode cX7_digest 113 = .ok (.lstore_n 1, 1) := by decide +kernel
theorem dX7_digest_114 : decode cX7_digest 114 = .ok (.iinc 4 1, 3) := by decide +kernel
theorem dX7_digest_117 : decode cX7_digest 117 = .ok (.goto (-33), 3) := by decide +kernel
theorem dX7_digest_120 : decode cX7_digest 120 = .ok (.lload_n 1, 1) := by decide +kernel
theorem dX7_digest_121 : decode cX7_digest 121 = .ok (.lreturn, 1) := by decide +kernel
theorem dX7_isTape_0 : decode cX7_isTape 0 = .ok (.iload_n 0, 1) := by decide +kernel
theorem dX7_isTape_1 : decode cX7_isTape 1 = .ok (.ifCond .lt 12, 3) := by decide +kernel
theorem dX7_isTape_4 : decode cX7_isTape 4 = .ok (.iload_n 0, 1) := by decide +kernel
theorem dX7_isTape_5 : decode cX7_isTape 5 = .ok (.iconst 4, 1) := by decide +kernel
theorem dX7_isTape_6 : decode cX7_isTape 6 = .ok (.if_icmp .ge 7, 3) := by decide +kernel
theorem dX7_isTape_9 : decode cX7_isTape 9 = .ok (.iconst 1, 1) := by decide +kernel
theorem dX7_isTape_10 : decode cX7_isTape 10 = .ok (.goto 4, 3) := by decide +kernel
theorem dX7_isTape_13 : decode cX7_isTape 13 = .ok (.iconst 0, 1) := by decide +kernel
theorem dX7_isTape_14 : decode cX7_isTape 14 = .ok (.ireturn, 1) := by decide +kernel
theorem dX7_isForm_0 : decode cX7_isForm 0 = .ok (.iload_n 0, 1) := by decide +kernel
theorem dX7_isForm_1 : decode cX7_isForm 1 = .ok (.ifCond .lt 12, 3) := by decide +kernel
theorem dX7_isForm_4 : decode cX7_isForm 4 = .ok (.iload_n 0, 1) := by decide +kernel
theorem dX7_isForm_5 : decode cX7_isForm 5 = .ok (.iconst 2, 1) := by decide +kernel
theorem dX7_isForm_6 : decode cX7_isForm 6 = .ok (.if_icmp .gt 7, 3) := by decide +kernel
theorem dX7_isForm_9 : decode cX7_isForm 9 = .ok (.iconst 1, 1) := by decide +kernel
theorem dX7_isForm_10 : decode cX7_isForm 10 = .ok (.goto 4, 3) := by decide +kernel
theorem dX7_isForm_13 : decode cX7_isForm 13 = .ok (.iconst 0, 1) := by decide +kernel
theorem dX7_isForm_14 : decode cX7_isForm 14 = .ok (.ireturn, 1) := by decide +kernel
theorem dX7_finding_0 : decode cX7_finding 0 = .ok (.aload_n 0, 1) := by decide +kernel
theorem dX7_finding_1 : decode cX7_finding 1 = .ok (.iload_n 1, 1) := by decide +kernel
theorem dX7_finding_2 : decode cX7_finding 2 = .ok (.putfield 64, 3) := by decide +kernel
theorem dX7_finding_5 : decode cX7_finding 5 = .ok (.bipush (-10), 2) := by decide +kernel
theorem dX7_finding_7 : decode cX7_finding 7 = .ok (.iload_n 1, 1) := by decide +kernel
theorem dX7_finding_8 : decode cX7_finding 8 = .ok (.isub, 1) := by decide +kernel
theorem dX7_finding_9 : decode cX7_finding 9 = .ok (.ireturn, 1) := by decide +kernel
theorem dX7_faultOfItem_0 : decode cX7_faultOfItem 0 = .ok (.aload_n 0, 1) := by decide +kernel
theorem dX7_faultOfItem_1 : decode cX7_faultOfItem 1 = .ok (.invokevirtual 214, 3) := by decide +kernel
theorem dX7_faultOfItem_4 : decode cX7_faultOfItem 4 = .ok (.ifCond .eq 5, 3) := by decide +kernel
theorem dX7_faultOfItem_7 : decode cX7_faultOfItem 7 = .ok (.iconst 1, 1) := by decide +kernel
theorem dX7_faultOfItem_8 : decode cX7_faultOfItem 8 = .ok (.ireturn, 1) := by decide +kernel
theorem dX7_faultOfItem_9 : decode cX7_faultOfItem 9 = .ok (.aload_n 0, 1) := by decide +kernel
theorem dX7_faultOfItem_10 : decode cX7_faultOfItem 10 = .ok (.getfield 232, 3) := by decide +kernel
theorem dX7_faultOfItem_13 : decode cX7_faultOfItem 13 = .ok (.iload_n 1, 1) := by decide +kernel
theorem dX7_faultOfItem_14 : decode cX7_faultOfItem 14 = .ok (.if_icmp .eq 5, 3) := by decide +kernel
theorem dX7_faultOfItem_17 : decode cX7_faultOfItem 17 = .ok (.iconst 3, 1) := by decide +kernel
theorem dX7_faultOfItem_18 : decode cX7_faultOfItem 18 = .ok (.ireturn, 1) := by decide +kernel
theorem dX7_faultOfItem_19 : decode cX7_faultOfItem 19 = .ok (.aload_n 0, 1) := by decide +kernel
theorem dX7_faultOfItem_20 : decode cX7_faultOfItem 20 = .ok (.iload_n 2, 1) := by decide +kernel
theorem dX7_faultOfItem_21 : decode cX7_faultOfItem 21 = .ok (.iconst 1, 1) := by decide +kernel
theorem dX7_faultOfItem_22 : decode cX7_faultOfItem 22 = .ok (.invokevirtual 235, 3) := by decide +kernel
theorem dX7_faultOfItem_25 : decode cX7_faultOfItem 25 = .ok (.ifCond .eq 7, 3) := by decide +kernel
theorem dX7_faultOfItem_28 : decode cX7_faultOfItem 28 = .ok (.iconst 0, 1) := by decide +kernel
theorem dX7_faultOfItem_29 : decode cX7_faultOfItem 29 = .ok (.goto 4, 3) := by decide +kernel
theorem dX7_faultOfItem_32 : decode cX7_faultOfItem 32 = .ok (.iconst 2, 1) := by decide +kernel
theorem dX7_faultOfItem_33 : decode cX7_faultOfItem 33 = .ok (.ireturn, 1) := by decide +kernel
