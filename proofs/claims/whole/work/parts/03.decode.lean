theorem dX6_init_63 : decode cX6_init 63 = .ok (.aload_n 0, 1) := by decide +kernel
theorem dX6_init_64 : decode cX6_init 64 = .ok (.bipush 6, 2) := by decide +kernel
theorem dX6_init_66 : decode cX6_init 66 = .ok (.newarray .int, 2) := by decide +kernel
theorem dX6_init_68 : decode cX6_init 68 = .ok (.putfield 32, 3) := by decide +kernel
theorem dX6_init_71 : decode cX6_init 71 = .ok (.aload_n 0, 1) := by decide +kernel
theorem dX6_init_72 : decode cX6_init 72 = .ok (.bipush 8, 2) := by decide +kernel
theorem dX6_init_74 : decode cX6_init 74 = .ok (.newarray .int, 2) := by decide +kernel
theorem dX6_init_76 : decode cX6_init 76 = .ok (.putfield 35, 3) := by decide +kernel
theorem dX6_init_79 : decode cX6_init 79 = .ok (.aload_n 0, 1) := by decide +kernel
theorem dX6_init_80 : decode cX6_init 80 = .ok (.bipush 8, 2) := by decide +kernel
theorem dX6_init_82 : decode cX6_init 82 = .ok (.newarray .int, 2) := by decide +kernel
theorem dX6_init_84 : decode cX6_init 84 = .ok (.putfield 38, 3) := by decide +kernel
theorem dX6_init_87 : decode cX6_init 87 = .ok (.aload_n 0, 1) := by decide +kernel
theorem dX6_init_88 : decode cX6_init 88 = .ok (.bipush 32, 2) := by decide +kernel
theorem dX6_init_90 : decode cX6_init 90 = .ok (.newarray .int, 2) := by decide +kernel
theorem dX6_init_92 : decode cX6_init 92 = .ok (.putfield 41, 3) := by decide +kernel
theorem dX6_init_95 : decode cX6_init 95 = .ok (.aload_n 0, 1) := by decide +kernel
theorem dX6_init_96 : decode cX6_init 96 = .ok (.iconst 5, 1) := by decide +kernel
theorem dX6_init_97 : decode cX6_init 97 = .ok (.newarray .int, 2) := by decide +kernel
theorem dX6_init_99 : decode cX6_init 99 = .ok (.putfield 44, 3) := by decide +kernel
theorem dX6_init_102 : decode cX6_init 102 = .ok (.aload_n 0, 1) := by decide +kernel
theorem dX6_init_103 : decode cX6_init 103 = .ok (.iconst 5, 1) := by decide +kernel
theorem dX6_init_104 : decode cX6_init 104 = .ok (.newarray .int, 2) := by decide +kernel
theorem dX6_init_106 : decode cX6_init 106 = .ok (.putfield 47, 3) := by decide +kernel
theorem dX6_init_109 : decode cX6_init 109 = .ok (.aload_n 0, 1) := by decide +kernel
theorem dX6_init_110 : decode cX6_init 110 = .ok (.bipush 20, 2) := by decide +kernel
theorem dX6_init_112 : decode cX6_init 112 = .ok (.newarray .int, 2) := by decide +kernel
theorem dX6_init_114 : decode cX6_init 114 = .ok (.putfield 50, 3) := by decide +kernel
theorem dX6_init_117 : decode cX6_init 117 = .ok (.aload_n 0, 1) := by decide +kernel
theorem dX6_init_118 : decode cX6_init 118 = .ok (.bipush 99, 2) := by decide +kernel
theorem dX6_init_120 : decode cX6_init 120 = .ok (.newarray .int, 2) := by decide +kernel
theorem dX6_init_122 : decode cX6_init 122 = .ok (.putfield 53, 3) := by decide +kernel
theorem dX6_init_125 : decode cX6_init 125 = .ok (.aload_n 0, 1) := by decide +kernel
theorem dX6_init_126 : decode cX6_init 126 = .ok (.bipush (-9), 2) := by decide +kernel
theorem dX6_init_128 : decode cX6_init 128 = .ok (.putfield 56, 3) := by decide +kernel
theorem dX6_init_131 : decode cX6_init 131 = .ok (.aload_n 0, 1) := by decide +kernel
theorem dX6_init_132 : decode cX6_init 132 = .ok (.getfield 13, 3) := by decide +kernel
theorem dX6_init_135 : decode cX6_init 135 = .ok (.invokestatic 60, 3) := by decide +kernel
theorem dX6_init_138 : decode cX6_init 138 = .ok (.return_, 1) := by decide +kernel
theorem dX6_clear_0 : decode cX6_clear 0 = .ok (.iconst 0, 1) := by decide +kernel
theorem dX6_clear_1 : decode cX6_clear 1 = .ok (.istore_n 1, 1) := by decide +kernel
theorem dX6_clear_2 : decode cX6_clear 2 = .ok (.iload_n 1, 1) := by decide +kernel
theorem dX6_clear_3 : decode cX6_clear 3 = .ok (.sipush 214, 3) := by decide +kernel
theorem dX6_clear_6 : decode cX6_clear 6 = .ok (.if_icmp .ge 24, 3) := by decide +kernel
theorem dX6_clear_9 : decode cX6_clear 9 = .ok (.aload_n 0, 1) := by decide +kernel
theorem dX6_clear_10 : decode cX6_clear 10 = .ok (.iload_n 1, 1) := by decide +kernel
theorem dX6_clear_11 : decode cX6_clear 11 = .ok (.iload_n 1, 1) := by decide +kernel
theorem dX6_clear_12 : decode cX6_clear 12 = .ok (.bipush 114, 2) := by decide +kernel
theorem dX6_clear_14 : decode cX6_clear 14 = .ok (.if_icmp .ge 7, 3) := by decide +kernel
theorem dX6_clear_17 : decode cX6_clear 17 = .ok (.iconst 0, 1) := by decide +kernel
theorem dX6_clear_18 : decode cX6_clear 18 = .ok (.goto 5, 3) := by decide +kernel
theorem dX6_clear_21 : decode cX6_clear 21 = .ok (.bipush (-9), 2) := by decide +kernel
theorem dX6_clear_23 : decode cX6_clear 23 = .ok (.iastore, 1) := by decide +kernel
theorem dX6_clear_24 : decode cX6_clear 24 = .ok (.iinc 1 1, 3) := by decide +kernel
theorem dX6_clear_27 : decode cX6_clear 27 = .ok (.goto (-25), 3) := by decide +kernel
theorem dX6_clear_30 : decode cX6_clear 30 = .ok (.aload_n 0, 1) := by decide +kernel
theorem dX6_clear_31 : decode cX6_clear 31 = .ok (.bipush 81, 2) := by decide +kernel
theorem dX6_clear_33 : decode cX6_clear 33 = .ok (.bipush (-9), 2) := by decide +kernel
theorem dX6_clear_35 : decode cX6_clear 35 = .ok (.iastore, 1) := by decide +kernel
theorem dX6_clear_36 : decode cX6_clear 36 = .ok (.return_, 1) := by decide +kernel
theorem dX6_copy_0 : decode cX6_copy 0 = .ok (.iconst 0, 1) := by decide +kernel
theorem dX6_copy_1 : decode cX6_copy 1 = .ok (.istore_n 2, 1) := by decide +kernel
theorem dX6_copy_2 : decode cX6_copy 2 = .ok (.iload_n 2, 1) := by decide +kernel
theorem dX6_copy_3 : decode cX6_copy 3 = .ok (.sipush 214, 3) := by decide +kernel
theorem dX6_copy_6 : decode cX6_copy 6 = .ok (.if_icmp .ge 15, 3) := by decide +kernel
theorem dX6_copy_9 : decode cX6_copy 9 = .ok (.aload_n 1, 1) := by decide +kernel
theorem dX6_copy_10 : decode cX6_copy 10 = .ok (.iload_n 2, 1) := by decide +kernel
theorem dX6_copy_11 : decode cX6_copy 11 = .ok (.aload_n 0, 1) := by decide +kernel
theorem dX6_copy_12 : decode cX6_copy 12 = .ok (.iload_n 2, 1) := by decide +kernel
theorem dX6_copy_13 : decode cX6_copy 13 = .ok (.iaload, 1) := by decide +kernel
theorem dX6_copy_14 : decode cX6_copy 14 = .ok (.iastore, 1) := by decide +kernel
theorem dX6_copy_15 : decode cX6_copy 15 = .ok (.iinc 2 1, 3) := by decide +kernel
theorem dX6_copy_18 : decode cX6_copy 18 = .ok (.goto (-16), 3) := by decide +kernel
theorem dX6_copy_21 : decode cX6_copy 21 = .ok (.return_, 1) := by decide +kernel
theorem dX6_in_0 : decode cX6_in 0 = .ok (.lload_n 0, 1) := by decide +kernel
theorem dX6_in_1 : decode cX6_in 1 = .ok (.lload_n 2, 1) := by decide +kernel
theorem dX6_in_2 : decode cX6_in 2 = .ok (.lcmp, 1) := by decide +kernel
theorem dX6_in_3 : decode cX6_in 3 = .ok (.ifCond .lt 14, 3) := by decide +kernel
theorem dX6_in_6 : decode cX6_in 6 = .ok (.lload_n 0, 1) := by decide +kernel
theorem dX6_in_7 : decode cX6_in 7 = .ok (.lload 4, 2) := by decide +kernel
theorem dX6_in_9 : decode cX6_in 9 = .ok (.lcmp, 1) := by decide +kernel
theorem dX6_in_10 : decode cX6_in 10 = .ok (.ifCond .gt 7, 3) := by decide +kernel
theorem dX6_in_13 : decode cX6_in 13 = .ok (.iconst 1, 1) := by decide +kernel
theorem dX6_in_14 : decode cX6_in 14 = .ok (.goto 4, 3) := by decide +kernel
theorem dX6_in_17 : decode cX6_in 17 = .ok (.iconst 0, 1) := by decide +kernel
theorem dX6_in_18 : decode cX6_in 18 = .ok (.ireturn, 1) := by decide +kernel
theorem dX6_has_0 : decode cX6_has 0 = .ok (.iload_n 0, 1) := by decide +kernel
theorem dX6_has_1 : decode cX6_has 1 = .ok (.iload_n 1, 1) := by decide +kernel
theorem dX6_has_2 : decode cX6_has 2 = .ok (.ishr, 1) := by decide +kernel
theorem dX6_has_3 : decode cX6_has 3 = .ok (.iconst 1, 1) := by decide +kernel
theorem dX6_has_4 : decode cX6_has 4 = .ok (.iand, 1) := by decide +kernel
theorem dX6_has_5 : decode cX6_has 5 = .ok (.iconst 1, 1) := by decide +kernel
theorem dX6_has_6 : decode cX6_has 6 = .ok (.if_icmp .ne 7, 3) := by decide +kernel
theorem dX6_has_9 : decode cX6_has 9 = .ok (.iconst 1, 1) := by decide +kernel
theorem dX6_has_10 : decode cX6_has 10 = .ok (.goto 4, 3) := by decide +kernel
theorem dX6_has_13 : decode cX6_has 13 = .ok (.iconst 0, 1) := by decide +kernel
theorem dX6_has_14 : decode cX6_has 14 = .ok (.ireturn, 1) := by decide +kernel
theorem dX6_ones_0 : decode cX6_ones 0 = .ok (.iconst 0, 1) := by decide +kernel
theorem dX6_ones_1 : decode cX6_ones 1 = .ok (.istore_n 1, 1) := by decide +kernel
theorem dX6_ones_2 : decode cX6_ones 2 = .ok (.iconst 0, 1) := by decide +kernel
theorem dX6_ones_3 : decode cX6_ones 3 = .ok (.istore_n 2, 1) := by decide +kernel
theorem dX6_ones_4 : decode cX6_ones 4 = .ok (.iload_n 2, 1) := by decide +kernel
theorem dX6_ones_5 : decode cX6_ones 5 = .ok (.bipush 20, 2) := by decide +kernel
theorem dX6_ones_7 : decode cX6_ones 7 = .ok (.if_icmp .ge 17, 3) := by decide +kernel
theorem dX6_ones_10 : decode cX6_ones 10 = .ok (.iload_n 1, 1) := by decide +kernel
theorem dX6_ones_11 : decode cX6_ones 11 = .ok (.iload_n 0, 1) := by decide +kernel
theorem dX6_ones_12 : decode cX6_ones 12 = .ok (.iload_n 2, 1) := by decide +kernel
theorem dX6_ones_13 : decode cX6_ones 13 = .ok (.ishr, 1) := by decide +kernel
theorem dX6_ones_14 : decode cX6_ones 14 = .ok (.iconst 1, 1) := by decide +kernel
theorem dX6_ones_15 : decode cX6_ones 15 = .ok (.iand, 1) := by decide +kernel
theorem dX6_ones_16 : decode cX6_ones 16 = .ok (.iadd, 1) := by decide +kernel
theorem dX6_ones_17 : decode cX6_ones 17 = .ok (.istore_n 1, 1) := by decide +kernel
theorem dX6_ones_18 : decode cX6_ones 18 = .ok (.iinc 2 1, 3) := by decide +kernel
theorem dX6_ones_21 : decode cX6_ones 21 = .ok (.goto (-17), 3) := by decide +kernel
theorem dX6_ones_24 : decode cX6_ones 24 = .ok (.iload_n 1, 1) := by decide +kernel
theorem dX6_ones_25 : decode cX6_ones 25 = .ok (.ireturn, 1) := by decide +kernel
theorem dX6_power_0 : decode cX6_power 0 = .ok (.iconst 1, 1) := by decide +kernel
theorem dX6_power_1 : decode cX6_power 1 = .ok (.istore_n 2, 1) := by decide +kernel
theorem dX6_power_2 : decode cX6_power 2 = .ok (.iconst 0, 1) := by decide +kernel
theorem dX6_power_3 : decode cX6_power 3 = .ok (.istore_n 3, 1) := by decide +kernel
theorem dX6_power_4 : decode cX6_power 4 = .ok (.iload_n 3, 1) := by decide +kernel
theorem dX6_power_5 : decode cX6_power 5 = .ok (.iload_n 1, 1) := by decide +kernel
theorem dX6_power_6 : decode cX6_power 6 = .ok (.if_icmp .ge 13, 3) := by decide +kernel
theorem dX6_power_9 : decode cX6_power 9 = .ok (.iload_n 2, 1) := by decide +kernel
theorem dX6_power_10 : decode cX6_power 10 = .ok (.iload_n 0, 1) := by decide +kernel
theorem dX6_power_11 : decode cX6_power 11 = .ok (.imul, 1) := by decide +kernel
theorem dX6_power_12 : decode cX6_power 12 = .ok (.istore_n 2, 1) := by decide +kernel
theorem dX6_power_13 : decode cX6_power 13 = .ok (.iinc 3 1, 3) := by decide +kernel
theorem dX6_power_16 : decode cX6_power 16 = .ok (.goto (-12), 3) := by decide +kernel
theorem dX6_power_19 : decode cX6_power 19 = .ok (.iload_n 2, 1) := by decide +kernel
theorem dX6_power_20 : decode cX6_power 20 = .ok (.ireturn, 1) := by decide +kernel
theorem dX6_factorial_0 : decode cX6_factorial 0 = .ok (.iconst 1, 1) := by decide +kernel
theorem dX6_factorial_1 : decode cX6_factorial 1 = .ok (.istore_n 1, 1) := by decide +kernel
theorem dX6_factorial_2 : decode cX6_factorial 2 = .ok (.iconst 2, 1) := by decide +kernel
theorem dX6_factorial_3 : decode cX6_factorial 3 = .ok (.istore_n 2, 1) := by decide +kernel
theorem dX6_factorial_4 : decode cX6_factorial 4 = .ok (.iload_n 2, 1) := by decide +kernel
theorem dX6_factorial_5 : decode cX6_factorial 5 = .ok (.iload_n 0, 1) := by decide +kernel
theorem dX6_factorial_6 : decode cX6_factorial 6 = .ok (.if_icmp .gt 13, 3) := by decide +kernel
theorem dX6_factorial_9 : decode cX6_factorial 9 = .ok (.iload_n 1, 1) := by decide +kernel
theorem dX6_factorial_10 : decode cX6_factorial 10 = .ok (.iload_n 2, 1) := by decide +kernel
theorem dX6_factorial_11 : decode cX6_factorial 11 = .ok (.imul, 1) := by decide +kernel
theorem dX6_factorial_12 : decode cX6_factorial 12 = .ok (.istore_n 1, 1) := by decide +kernel
theorem dX6_factorial_13 : decode cX6_factorial 13 = .ok (.iinc 2 1, 3) := by decide +kernel
theorem dX6_factorial_16 : decode cX6_factorial 16 = .ok (.goto (-12), 3) := by decide +kernel
theorem dX6_factorial_19 : decode cX6_factorial 19 = .ok (.iload_n 1, 1) := by decide +kernel
theorem dX6_factorial_20 : decode cX6_factorial 20 = .ok (.ireturn, 1) := by decide +kernel
theorem dX6_fraction_0 : decode cX6_fraction 0 = .ok (.iload_n 0, 1) := by decide +kernel
theorem dX6_fraction_1 : decode cX6_fraction 1 = .ok (.ifCond .ge 8, 3) := by decide +kernel
theorem dX6_fraction_4 : decode cX6_fraction 4 = .ok (.iload_n 0, 1) := by decide +kernel
theorem dX6_fraction_5 : decode cX6_fraction 5 = .ok (.ineg, 1) := by decide +kernel
theorem dX6_fraction_6 : decode cX6_fraction 6 = .ok (.goto 4, 3) := by decide +kernel
theorem dX6_fraction_9 : decode cX6_fraction 9 = .ok (.iload_n 0, 1) := by decide +kernel
theorem dX6_fraction_10 : decode cX6_fraction 10 = .ok (.istore_n 3, 1) := by decide +kernel
theorem dX6_fraction_11 : decode cX6_fraction 11 = .ok (.iload_n 1, 1) := by decide +kernel
theorem dX6_fraction_12 : decode cX6_fraction 12 = .ok (.istore 4, 2) := by decide +kernel
theorem dX6_fraction_14 : decode cX6_fraction 14 = .ok (.iload 4, 2) := by decide +kernel
theorem dX6_fraction_16 : decode cX6_fraction 16 = .ok (.ifCond .eq 19, 3) := by decide +kernel
theorem dX6_fraction_19 : decode cX6_fraction 19 = .ok (.iload_n 3, 1) := by decide +kernel
theorem dX6_fraction_20 : decode cX6_fraction 20 = .ok (.iload 4, 2) := by decide +kernel
theorem dX6_fraction_22 : decode cX6_fraction 22 = .ok (.irem, 1) := by decide +kernel
theorem dX6_fraction_23 : decode cX6_fraction 23 = .ok (.istore 5, 2) := by decide +kernel
theorem dX6_fraction_25 : decode cX6_fraction 25 = .ok (.iload 4, 2) := by decide +kernel
theorem dX6_fraction_27 : decode cX6_fraction 27 = .ok (.istore_n 3, 1) := by decide +kernel
theorem dX6_fraction_28 : decode cX6_fraction 28 = .ok (.iload 5, 2) := by decide +kernel
theorem dX6_fraction_30 : decode cX6_fraction 30 = .ok (.istore 4, 2) := by decide +kernel
theorem dX6_fraction_32 : decode cX6_fraction 32 = .ok (.goto (-18), 3) := by decide +kernel
theorem dX6_fraction_35 : decode cX6_fraction 35 = .ok (.iload_n 2, 1) := by decide +kernel
theorem dX6_fraction_36 : decode cX6_fraction 36 = .ok (.ifCond .eq 9, 3) := by decide +kernel
theorem dX6_fraction_39 : decode cX6_fraction 39 = .ok (.iload_n 0, 1) := by decide +kernel
theorem dX6_fraction_40 : decode cX6_fraction 40 = .ok (.iload_n 3, 1) := by decide +kernel
theorem dX6_fraction_41 : decode cX6_fraction 41 = .ok (.idiv, 1) := by decide +kernel
theorem dX6_fraction_42 : decode cX6_fraction 42 = .ok (.goto 6, 3) := by decide +kernel
theorem dX6_fraction_45 : decode cX6_fraction 45 = .ok (.iload_n 1, 1) := by decide +kernel
theorem dX6_fraction_46 : decode cX6_fraction 46 = .ok (.iload_n 3, 1) := by decide +kernel
theorem dX6_fraction_47 : decode cX6_fraction 47 = .ok (.idiv, 1) := by decide +kernel
theorem dX6_fraction_48 : decode cX6_fraction 48 = .ok (.ireturn, 1) := by decide +kernel
theorem dX6_isPath_0 : decode cX6_isPath 0 = .ok (.iload_n 1, 1) := by decide +kernel
theorem dX6_isPath_1 : decode cX6_isPath 1 = .ok (.i2l, 1) := by decide +kernel
theorem dX6_isPath_2 : decode cX6_isPath 2 = .ok (.lconst 0, 1) := by decide +kernel
theorem dX6_isPath_3 : decode cX6_isPath 3 = .ok (.aload_n 0, 1) := by decide +kernel
theorem dX6_isPath_4 : decode cX6_isPath 4 = .ok (.getfield 13, 3) := by decide +kernel
theorem dX6_isPath_7 : decode cX6_isPath 7 = .ok (.bipush 83, 2) := by decide +kernel
theorem dX6_isPath_9 : decode cX6_isPath 9 = .ok (.iaload, 1) := by decide +kernel
theorem dX6_isPath_10 : decode cX6_isPath 10 = .ok (.iconst 1, 1) := by decide +kernel
theorem dX6_isPath_11 : decode cX6_isPath 11 = .ok (.isub, 1) := by decide +kernel
theorem dX6_isPath_12 : decode cX6_isPath 12 = .ok (.i2l, 1) := by decide +kernel
theorem dX6_isPath_13 : decode cX6_isPath 13 = .ok (.invokestatic 64, 3) := by decide +kernel
theorem dX6_isPath_16 : decode cX6_isPath 16 = .ok (.ireturn, 1) := by decide +kernel
theorem dX6_isElement_0 : decode cX6_isElement 0 = .ok (.iload_n 1, 1) := by decide +kernel
theorem dX6_isElement_1 : decode cX6_isElement 1 = .ok (.i2l, 1) := by decide +kernel
theorem dX6_isElement_2 : decode cX6_isElement 2 = .ok (.lconst 0, 1) := by decide +kernel
theorem dX6_isElement_3 : decode cX6_isElement 3 = .ok (.aload_n 0, 1) := by decide +kernel
theorem dX6_isElement_4 : decode cX6_isElement 4 = .ok (.getfield 13, 3) := by decide +kernel
theorem dX6_isElement_7 : decode cX6_isElement 7 = .ok (.bipush 80, 2) := by decide +kernel
theorem dX6_isElement_9 : decode cX6_isElement 9 = .ok (.iaload, 1) := by decide +kernel
theorem dX6_isElement_10 : decode cX6_isElement 10 = .ok (.iconst 1, 1) := by decide +kernel
theorem dX6_isElement_11 : decode cX6_isElement 11 = .ok (.isub, 1) := by decide +kernel
theorem dX6_isElement_12 : decode cX6_isElement 12 = .ok (.i2l, 1) := by decide +kernel
theorem dX6_isElement_13 : decode cX6_isElement 13 = .ok (.invokestatic 64, 3) := by decide +kernel
theorem dX6_isElement_16 : decode cX6_isElement 16 = .ok (.ireturn, 1) := by decide +kernel
theorem dX6_write_0 : decode cX6_write 0 = .ok (.iload_n 1, 1) := by decide +kernel
theorem dX6_write_1 : decode cX6_write 1 = .ok (.i2l, 1) := by decide +kernel
theorem dX6_write_2 : decode cX6_write 2 = .ok (.lconst 0, 1) := by decide +kernel
theorem dX6_write_3 : decode cX6_write 3 = .ok (.ldc2_w 68, 3) := by decide +kernel
theorem dX6_write_6 : decode cX6_write 6 = .ok (.invokestatic 64, 3) := by decide +kernel
theorem dX6_write_9 : decode cX6_write 9 = .ok (.ifCond .ne 6, 3) := by decide +kernel
theorem dX6_write_12 : decode cX6_write 12 = .ok (.bipush (-2), 2) := by decide +kernel
theorem dX6_write_14 : decode cX6_write 14 = .ok (.ireturn, 1) := by decide +kernel
theorem dX6_write_15 : decode cX6_write 15 = .ok (.aload_n 0, 1) := by decide +kernel
theorem dX6_write_16 : decode cX6_write 16 = .ok (.getfield 70, 3) := by decide +kernel
theorem dX6_write_19 : decode cX6_write 19 = .ok (.bipush 99, 2) := by decide +kernel
theorem dX6_write_21 : decode cX6_write 21 = .ok (.if_icmp .ne 6, 3) := by decide +kernel
theorem dX6_write_24 : decode cX6_write 24 = .ok (.bipush (-4), 2) := by decide +kernel
theorem dX6_write_26 : decode cX6_write 26 = .ok (.ireturn, 1) := by decide +kernel
theorem dX6_write_27 : decode cX6_write 27 = .ok (.aload_n 0, 1) := by decide +kernel
theorem dX6_write_28 : decode cX6_write 28 = .ok (.getfield 7, 3) := by decide +kernel
theorem dX6_write_31 : decode cX6_write 31 = .ok (.aload_n 0, 1) := by decide +kernel
theorem dX6_write_32 : decode cX6_write 32 = .ok (.getfield 70, 3) := by decide +kernel
theorem dX6_write_35 : decode cX6_write 35 = .ok (.iload_n 1, 1) := by decide +kernel
theorem dX6_write_36 : decode cX6_write 36 = .ok (.iastore, 1) := by decide +kernel
theorem dX6_write_37 : decode cX6_write 37 = .ok (.aload_n 0, 1) := by decide +kernel
theorem dX6_write_38 : decode cX6_write 38 = .ok (.dup, 1) := by decide +kernel
theorem dX6_write_39 : decode cX6_write 39 = .ok (.getfield 70, 3) := by decide +kernel
theorem dX6_write_42 : decode cX6_write 42 = .ok (.iconst 1, 1) := by decide +kernel
theorem dX6_write_43 : decode cX6_write 43 = .ok (.iadd, 1) := by decide +kernel
theorem dX6_write_44 : decode cX6_write 44 = .ok (.putfield 70, 3) := by decide +kernel
theorem dX6_write_47 : decode cX6_write 47 = .ok (.aload_n 0, 1) := by decide +kernel
theorem dX6_write_48 : decode cX6_write 48 = .ok (.getfield 70, 3) := by decide +kernel
theorem dX6_write_51 : decode cX6_write 51 = .ok (.ireturn, 1) := by decide +kernel
theorem dX6_wipe_0 : decode cX6_wipe 0 = .ok (.aload_n 0, 1) := by decide +kernel
theorem dX6_wipe_1 : decode cX6_wipe 1 = .ok (.getfield 70, 3) := by decide +kernel
theorem dX6_wipe_4 : decode cX6_wipe 4 = .ok (.istore_n 1, 1) := by decide +kernel
theorem dX6_wipe_5 : decode cX6_wipe 5 = .ok (.aload_n 0, 1) := by decide +kernel
theorem dX6_wipe_6 : decode cX6_wipe 6 = .ok (.iconst 0, 1) := by decide +kernel
theorem dX6_wipe_7 : decode cX6_wipe 7 = .ok (.putfield 70, 3) := by decide +kernel
theorem dX6_wipe_10 : decode cX6_wipe 10 = .ok (.iload_n 1, 1) := by decide +kernel
theorem dX6_wipe_11 : decode cX6_wipe 11 = .ok (.ireturn, 1) := by decide +kernel
theorem dX6_takeEvent_0 : decode cX6_takeEvent 0 = .ok (.iload_n 1, 1) := by decide +kernel
theorem dX6_takeEvent_1 : decode cX6_takeEvent 1 = .ok (.i2l, 1) := by decide +kernel
theorem dX6_takeEvent_2 : decode cX6_takeEvent 2 = .ok (.ldc2_w 73, 3) := by decide +kernel
theorem dX6_takeEvent_5 : decode cX6_takeEvent 5 = .ok (.ldc2_w 75, 3) := by decide +kernel
theorem dX6_takeEvent_8 : decode cX6_takeEvent 8 = .ok (.invokestatic 64, 3) := by decide +kernel
theorem dX6_takeEvent_11 : decode cX6_takeEvent 11 = .ok (.ifCond .ne 9, 3) := by decide +kernel
theorem dX6_takeEvent_14 : decode cX6_takeEvent 14 = .ok (.iload_n 1, 1) := by decide +kernel
theorem dX6_takeEvent_15 : decode cX6_takeEvent 15 = .ok (.bipush 41, 2) := by decide +kernel
theorem dX6_takeEvent_17 : decode cX6_takeEvent 17 = .ok (.if_icmp .ne 72, 3) := by decide +kernel
theorem dX6_takeEvent_20 : decode cX6_takeEvent 20 = .ok (.aload_n 0, 1) := by decide +kernel
theorem dX6_takeEvent_21 : decode cX6_takeEvent 21 = .ok (.getfield 53, 3) := by decide +kernel
theorem dX6_takeEvent_24 : decode cX6_takeEvent 24 = .ok (.aload_n 0, 1) := by decide +kernel
theorem dX6_takeEvent_25 : decode cX6_takeEvent 25 = .ok (.getfield 77, 3) := by decide +kernel
theorem dX6_takeEvent_28 : decode cX6_takeEvent 28 = .ok (.iload_n 1, 1) := by decide +kernel
theorem dX6_takeEvent_29 : decode cX6_takeEvent 29 = .ok (.bipush 41, 2) := by decide +kernel
theorem dX6_takeEvent_31 : decode cX6_takeEvent 31 = .ok (.if_icmp .ne 8, 3) := by decide +kernel
theorem dX6_takeEvent_34 : decode cX6_takeEvent 34 = .ok (.bipush 10, 2) := by decide +kernel
theorem dX6_takeEvent_36 : decode cX6_takeEvent 36 = .ok (.goto 7, 3) := by decide +kernel
theorem dX6_takeEvent_39 : decode cX6_takeEvent 39 = .ok (.iload_n 1, 1) := by decide +kernel
theorem dX6_takeEvent_40 : decode cX6_takeEvent 40 = .ok (.bipush 28, 2) := by decide +kernel
theorem dX6_takeEvent_42 : decode cX6_takeEvent 42 = .ok (.isub, 1) := by decide +kernel
theorem dX6_takeEvent_43 : decode cX6_takeEvent 43 = .ok (.iastore, 1) := by decide +kernel
theorem dX6_takeEvent_44 : decode cX6_takeEvent 44 = .ok (.aload_n 0, 1) := by decide +kernel
theorem dX6_takeEvent_45 : decode cX6_takeEvent 45 = .ok (.dup, 1) := by decide +kernel
theorem dX6_takeEvent_46 : decode cX6_takeEvent 46 = .ok (.getfield 77, 3) := by decide +kernel
theorem dX6_takeEvent_49 : decode cX6_takeEvent 49 = .ok (.iconst 1, 1) := by decide +kernel
theorem dX6_takeEvent_50 : decode cX6_takeEvent 50 = .ok (.iadd, 1) := by decide +kernel
theorem dX6_takeEvent_51 : decode cX6_takeEvent 51 = .ok (.putfield 77, 3) := by decide +kernel
theorem dX6_takeEvent_54 : decode cX6_takeEvent 54 = .ok (.aload_n 0, 1) := by decide +kernel
theorem dX6_takeEvent_55 : decode cX6_takeEvent 55 = .ok (.getfield 80, 3) := by decide +kernel
theorem dX6_takeEvent_58 : decode cX6_takeEvent 58 = .ok (.ifCond .le 7, 3) := by decide +kernel
theorem dX6_takeEvent_61 : decode cX6_takeEvent 61 = .ok (.iconst 1, 1) := by decide +kernel
theorem dX6_takeEvent_62 : decode cX6_takeEvent 62 = .ok (.goto 4, 3) := by decide +kernel
theorem dX6_takeEvent_65 : decode cX6_takeEvent 65 = .ok (.iconst 0, 1) := by decide +kernel
theorem dX6_takeEvent_66 : decode cX6_takeEvent 66 = .ok (.istore_n 2, 1) := by decide +kernel
theorem dX6_takeEvent_67 : decode cX6_takeEvent 67 = .ok (.aload_n 0, 1) := by decide +kernel
theorem dX6_takeEvent_68 : decode cX6_takeEvent 68 = .ok (.dup, 1) := by decide +kernel
theorem dX6_takeEvent_69 : decode cX6_takeEvent 69 = .ok (.getfield 80, 3) := by decide +kernel
theorem dX6_takeEvent_72 : decode cX6_takeEvent 72 = .ok (.iload_n 1, 1) := by decide +kernel
theorem dX6_takeEvent_73 : decode cX6_takeEvent 73 = .ok (.bipush 41, 2) := by decide +kernel
theorem dX6_takeEvent_75 : decode cX6_takeEvent 75 = .ok (.if_icmp .ne 7, 3) := by decide +kernel
theorem dX6_takeEvent_78 : decode cX6_takeEvent 78 = .ok (.iconst 1, 1) := by decide +kernel
theorem dX6_takeEvent_79 : decode cX6_takeEvent 79 = .ok (.goto 4, 3) := by decide +kernel
theorem dX6_takeEvent_82 : decode cX6_takeEvent 82 = .ok (.iconst 0, 1) := by decide +kernel
theorem dX6_takeEvent_83 : decode cX6_takeEvent 83 = .ok (.isub, 1) := by decide +kernel
theorem dX6_takeEvent_84 : decode cX6_takeEvent 84 = .ok (.putfield 80, 3) := by decide +kernel
theorem dX6_takeEvent_87 : decode cX6_takeEvent 87 = .ok (.iload_n 2, 1) := by decide +kernel
theorem dX6_takeEvent_88 : decode cX6_takeEvent 88 = .ok (.ireturn, 1) := by decide +kernel
theorem dX6_takeEvent_89 : decode cX6_takeEvent 89 = .ok (.aload_n 0, 1) := by decide +kernel
theorem dX6_takeEvent_90 : decode cX6_takeEvent 90 = .ok (.bipush 8, 2) := by decide +kernel
theorem dX6_takeEvent_92 : decode cX6_takeEvent 92 = .ok (.putfield 83, 3) := by decide +kernel
theorem dX6_takeEvent_95 : decode cX6_takeEvent 95 = .ok (.iload_n 1, 1) := by decide +kernel
theorem dX6_takeEvent_96 : decode cX6_takeEvent 96 = .ok (.bipush 40, 2) := by decide +kernel
theorem dX6_takeEvent_98 : decode cX6_takeEvent 98 = .ok (.if_icmp .ne 39, 3) := by decide +kernel
theorem dX6_takeEvent_101 : decode cX6_takeEvent 101 = .ok (.aload_n 0, 1) := by decide +kernel
theorem dX6_takeEvent_102 : decode cX6_takeEvent 102 = .ok (.getfield 86, 3) := by decide +kernel
theorem dX6_takeEvent_105 : decode cX6_takeEvent 105 = .ok (.bipush 20, 2) := by decide +kernel
theorem dX6_takeEvent_107 : decode cX6_takeEvent 107 = .ok (.if_icmp .ge 30, 3) := by decide +kernel
theorem dX6_takeEvent_110 : decode cX6_takeEvent 110 = .ok (.aload_n 0, 1) := by decide +kernel
theorem dX6_takeEvent_111 : decode cX6_takeEvent 111 = .ok (.getfield 80, 3) := by decide +kernel
theorem dX6_takeEvent_114 : decode cX6_takeEvent 114 = .ok (.bipush 8, 2) := by decide +kernel
theorem dX6_takeEvent_116 : decode cX6_takeEvent 116 = .ok (.if_icmp .ge 21, 3) := by decide +kernel
theorem dX6_takeEvent_119 : decode cX6_takeEvent 119 = .ok (.aload_n 0, 1) := by decide +kernel
theorem dX6_takeEvent_120 : decode cX6_takeEvent 120 = .ok (.getfield 86, 3) := by decide +kernel
theorem dX6_takeEvent_123 : decode cX6_takeEvent 123 = .ok (.ifCond .eq 10, 3) := by decide +kernel
theorem dX6_takeEvent_126 : decode cX6_takeEvent 126 = .ok (.aload_n 0, 1) := by decide +kernel
theorem dX6_takeEvent_127 : decode cX6_takeEvent 127 = .ok (.getfield 80, 3) := by decide +kernel
theorem dX6_takeEvent_130 : decode cX6_takeEvent 130 = .ok (.ifCond .le 7, 3) := by decide +kernel
theorem dX6_takeEvent_133 : decode cX6_takeEvent 133 = .ok (.iconst 1, 1) := by decide +kernel
theorem dX6_takeEvent_134 : decode cX6_takeEvent 134 = .ok (.goto 4, 3) := by decide +kernel
theorem dX6_takeEvent_137 : decode cX6_takeEvent 137 = .ok (.iconst 0, 1) := by decide +kernel
theorem dX6_takeEvent_138 : decode cX6_takeEvent 138 = .ok (.ireturn, 1) := by decide +kernel
theorem dX6_takeTop_0 : decode cX6_takeTop 0 = .ok (.iload_n 1, 1) := by decide +kernel
theorem dX6_takeTop_1 : decode cX6_takeTop 1 = .ok (.bipush 113, 2) := by decide +kernel
theorem dX6_takeTop_3 : decode cX6_takeTop 3 = .ok (.if_icmp .ne 51, 3) := by decide +kernel
theorem dX6_takeTop_6 : decode cX6_takeTop 6 = .ok (.aload_n 0, 1) := by decide +kernel
theorem dX6_takeTop_7 : decode cX6_takeTop 7 = .ok (.iconst 1, 1) := by decide +kernel
theorem dX6_takeTop_8 : decode cX6_takeTop 8 = .ok (.putfield 83, 3) := by decide +kernel
theorem dX6_takeTop_11 : decode cX6_takeTop 11 = .ok (.aload_n 0, 1) := by decide +kernel
theorem dX6_takeTop_12 : decode cX6_takeTop 12 = .ok (.getfield 47, 3) := by decide +kernel
theorem dX6_takeTop_15 : decode cX6_takeTop 15 = .ok (.aload_n 0, 1) := by decide +kernel
theorem dX6_takeTop_16 : decode cX6_takeTop 16 = .ok (.getfield 89, 3) := by decide +kernel
theorem dX6_takeTop_19 : decode cX6_takeTop 19 = .ok (.iconst 5, 1) := by decide +kernel
theorem dX6_takeTop_20 : decode cX6_takeTop 20 = .ok (.if_icmp .ge 10, 3) := by decide +kernel
theorem dX6_takeTop_23 : decode cX6_takeTop 23 = .ok (.aload_n 0, 1) := by decide +kernel
theorem dX6_takeTop_24 : decode cX6_takeTop 24 = .ok (.getfield 89, 3) := by decide +kernel
theorem dX6_takeTop_27 : decode cX6_takeTop 27 = .ok (.goto 4, 3) := by decide +kernel
theorem dX6_takeTop_30 : decode cX6_takeTop 30 = .ok (.iconst 0, 1) := by decide +kernel
theorem dX6_takeTop_31 : decode cX6_takeTop 31 = .ok (.iconst 0, 1) := by decide +kernel
theorem dX6_takeTop_32 : decode cX6_takeTop 32 = .ok (.iastore, 1) := by decide +kernel
theorem dX6_takeTop_33 : decode cX6_takeTop 33 = .ok (.aload_n 0, 1) := by decide +kernel
theorem dX6_takeTop_34 : decode cX6_takeTop 34 = .ok (.getfield 89, 3) := by decide +kernel
theorem dX6_takeTop_37 : decode cX6_takeTop 37 = .ok (.iconst 5, 1) := by decide +kernel
theorem dX6_takeTop_38 : decode cX6_takeTop 38 = .ok (.if_icmp .ge 14, 3) := by decide +kernel
theorem dX6_takeTop_41 : decode cX6_takeTop 41 = .ok (.aload_n 0, 1) := by decide +kernel
theorem dX6_takeTop_42 : decode cX6_takeTop 42 = .ok (.getfield 77, 3) := by decide +kernel
theorem dX6_takeTop_45 : decode cX6_takeTop 45 = .ok (.ifCond .ne 7, 3) := by decide +kernel
theorem dX6_takeTop_48 : decode cX6_takeTop 48 = .ok (.iconst 1, 1) := by decide +kernel
theorem dX6_takeTop_49 : decode cX6_takeTop 49 = .ok (.goto 4, 3) := by decide +kernel
theorem dX6_takeTop_52 : decode cX6_takeTop 52 = .ok (.iconst 0, 1) := by decide +kernel
theorem dX6_takeTop_53 : decode cX6_takeTop 53 = .ok (.ireturn, 1) := by decide +kernel
theorem dX6_takeTop_54 : decode cX6_takeTop 54 = .ok (.aload_n 0, 1) := by decide +kernel
theorem dX6_takeTop_55 : decode cX6_takeTop 55 = .ok (.iload_n 1, 1) := by decide +kernel
theorem dX6_takeTop_56 : decode cX6_takeTop 56 = .ok (.invokevirtual 92, 3) := by decide +kernel
theorem dX6_takeTop_59 : decode cX6_takeTop 59 = .ok (.ireturn, 1) := by decide +kernel
theorem dX6_takeAxis_0 : decode cX6_takeAxis 0 = .ok (.aload_n 0, 1) := by decide +kernel
theorem dX6_takeAxis_1 : decode cX6_takeAxis 1 = .ok (.getfield 47, 3) := by decide +kernel
theorem dX6_takeAxis_4 : decode cX6_takeAxis 4 = .ok (.aload_n 0, 1) := by decide +kernel
theorem dX6_takeAxis_5 : decode cX6_takeAxis 5 = .ok (.getfield 89, 3) := by decide +kernel
theorem dX6_takeAxis_8 : decode cX6_takeAxis 8 = .ok (.iaload, 1) := by decide +kernel
theorem dX6_takeAxis_9 : decode cX6_takeAxis 9 = .ok (.istore_n 2, 1) := by decide +kernel
theorem dX6_takeAxis_10 : decode cX6_takeAxis 10 = .ok (.iload_n 1, 1) := by decide +kernel
theorem dX6_takeAxis_11 : decode cX6_takeAxis 11 = .ok (.bipush 47, 2) := by decide +kernel
theorem dX6_takeAxis_13 : decode cX6_takeAxis 13 = .ok (.if_icmp .eq 9, 3) := by decide +kernel
theorem dX6_takeAxis_16 : decode cX6_takeAxis 16 = .ok (.iload_n 1, 1) := by decide +kernel
theorem dX6_takeAxis_17 : decode cX6_takeAxis 17 = .ok (.bipush 33, 2) := by decide +kernel
theorem dX6_takeAxis_19 : decode cX6_takeAxis 19 = .ok (.if_icmp .ne 8, 3) := by decide +kernel
theorem dX6_takeAxis_22 : decode cX6_takeAxis 22 = .ok (.iload_n 2, 1) := by decide +kernel
theorem dX6_takeAxis_23 : decode cX6_takeAxis 23 = .ok (.iconst 4, 1) := by decide +kernel
theorem dX6_takeAxis_24 : decode cX6_takeAxis 24 = .ok (.if_icmp .ne 5, 3) := by decide +kernel
theorem dX6_takeAxis_27 : decode cX6_takeAxis 27 = .ok (.iconst 0, 1) := by decide +kernel
theorem dX6_takeAxis_28 : decode cX6_takeAxis 28 = .ok (.ireturn, 1) := by decide +kernel
theorem dX6_takeAxis_29 : decode cX6_takeAxis 29 = .ok (.aload_n 0, 1) := by decide +kernel
theorem dX6_takeAxis_30 : decode cX6_takeAxis 30 = .ok (.getfield 50, 3) := by decide +kernel
theorem dX6_takeAxis_33 : decode cX6_takeAxis 33 = .ok (.iconst 4, 1) := by decide +kernel
theorem dX6_takeAxis_34 : decode cX6_takeAxis 34 = .ok (.aload_n 0, 1) := by decide +kernel
theorem dX6_takeAxis_35 : decode cX6_takeAxis 35 = .ok (.getfield 89, 3) := by decide +kernel
theorem dX6_takeAxis_38 : decode cX6_takeAxis 38 = .ok (.imul, 1) := by decide +kernel
theorem dX6_takeAxis_39 : decode cX6_takeAxis 39 = .ok (.iload_n 2, 1) := by decide +kernel
theorem dX6_takeAxis_40 : decode cX6_takeAxis 40 = .ok (.iadd, 1) := by decide +kernel
theorem dX6_takeAxis_41 : decode cX6_takeAxis 41 = .ok (.iload_n 1, 1) := by decide +kernel
theorem dX6_takeAxis_42 : decode cX6_takeAxis 42 = .ok (.bipush 33, 2) := by decide +kernel
theorem dX6_takeAxis_44 : decode cX6_takeAxis 44 = .ok (.if_icmp .ne 9, 3) := by decide +kernel
theorem dX6_takeAxis_47 : decode cX6_takeAxis 47 = .ok (.sipush 1000, 3) := by decide +kernel
theorem dX6_takeAxis_50 : decode cX6_takeAxis 50 = .ok (.goto 4, 3) := by decide +kernel
theorem dX6_takeAxis_53 : decode cX6_takeAxis 53 = .ok (.iconst 0, 1) := by decide +kernel
theorem dX6_takeAxis_54 : decode cX6_takeAxis 54 = .ok (.iastore, 1) := by decide +kernel
theorem dX6_takeAxis_55 : decode cX6_takeAxis 55 = .ok (.aload_n 0, 1) := by decide +kernel
theorem dX6_takeAxis_56 : decode cX6_takeAxis 56 = .ok (.getfield 47, 3) := by decide +kernel
theorem dX6_takeAxis_59 : decode cX6_takeAxis 59 = .ok (.aload_n 0, 1) := by decide +kernel
theorem dX6_takeAxis_60 : decode cX6_takeAxis 60 = .ok (.getfield 89, 3) := by decide +kernel
theorem dX6_takeAxis_63 : decode cX6_takeAxis 63 = .ok (.dup2, 1) := by decide +kernel
theorem dX6_takeAxis_64 : decode cX6_takeAxis 64 = .ok (.iaload, 1) := by decide +kernel
theorem dX6_takeAxis_65 : decode cX6_takeAxis 65 = .ok (.iconst 1, 1) := by decide +kernel
theorem dX6_takeAxis_66 : decode cX6_takeAxis 66 = .ok (.iadd, 1) := by decide +kernel
theorem dX6_takeAxis_67 : decode cX6_takeAxis 67 = .ok (.iastore, 1) := by decide +kernel
theorem dX6_takeAxis_68 : decode cX6_takeAxis 68 = .ok (.aload_n 0, 1) := by decide +kernel
theorem dX6_takeAxis_69 : decode cX6_takeAxis 69 = .ok (.iconst 2, 1) := by decide +kernel
theorem dX6_takeAxis_70 : decode cX6_takeAxis 70 = .ok (.putfield 83, 3) := by decide +kernel
theorem dX6_takeAxis_73 : decode cX6_takeAxis 73 = .ok (.iconst 1, 1) := by decide +kernel
theorem dX6_takeAxis_74 : decode cX6_takeAxis 74 = .ok (.ireturn, 1) := by decide +kernel
theorem dX6_takeBehind_0 : decode cX6_takeBehind 0 = .ok (.iload_n 1, 1) := by decide +kernel
theorem dX6_takeBehind_1 : decode cX6_takeBehind 1 = .ok (.bipush 46, 2) := by decide +kernel
theorem dX6_takeBehind_3 : decode cX6_takeBehind 3 = .ok (.if_icmp .ne 20, 3) := by decide +kernel
theorem dX6_takeBehind_6 : decode cX6_takeBehind 6 = .ok (.aload_n 0, 1) := by decide +kernel
theorem dX6_takeBehind_7 : decode cX6_takeBehind 7 = .ok (.dup, 1) := by decide +kernel
theorem dX6_takeBehind_8 : decode cX6_takeBehind 8 = .ok (.getfield 89, 3) := by decide +kernel
theorem dX6_takeBehind_11 : decode cX6_takeBehind 11 = .ok (.iconst 1, 1) := by decide +kernel
theorem dX6_takeBehind_12 : decode cX6_takeBehind 12 = .ok (.iadd, 1) := by decide +kernel
theorem dX6_takeBehind_13 : decode cX6_takeBehind 13 = .ok (.putfield 89, 3) := by decide +kernel
theorem dX6_takeBehind_16 : decode cX6_takeBehind 16 = .ok (.aload_n 0, 1) := by decide +kernel
theorem dX6_takeBehind_17 : decode cX6_takeBehind 17 = .ok (.iconst 0, 1) := by decide +kernel
theorem dX6_takeBehind_18 : decode cX6_takeBehind 18 = .ok (.putfield 83, 3) := by decide +kernel
theorem dX6_takeBehind_21 : decode cX6_takeBehind 21 = .ok (.iconst 1, 1) := by decide +kernel
theorem dX6_takeBehind_22 : decode cX6_takeBehind 22 = .ok (.ireturn, 1) := by decide +kernel
theorem dX6_takeBehind_23 : decode cX6_takeBehind 23 = .ok (.iload_n 1, 1) := by decide +kernel
theorem dX6_takeBehind_24 : decode cX6_takeBehind 24 = .ok (.bipush 91, 2) := by decide +kernel
theorem dX6_takeBehind_26 : decode cX6_takeBehind 26 = .ok (.if_icmp .ne 18, 3) := by decide +kernel
theorem dX6_takeBehind_29 : decode cX6_takeBehind 29 = .ok (.aload_n 0, 1) := by decide +kernel
theorem dX6_takeBehind_30 : decode cX6_takeBehind 30 = .ok (.getfield 83, 3) := by decide +kernel
theorem dX6_takeBehind_33 : decode cX6_takeBehind 33 = .ok (.iconst 3, 1) := by decide +kernel
theorem dX6_takeBehind_34 : decode cX6_takeBehind 34 = .ok (.if_icmp .ne 10, 3) := by decide +kernel
theorem dX6_takeBehind_37 : decode cX6_takeBehind 37 = .ok (.aload_n 0, 1) := by decide +kernel
theorem dX6_takeBehind_38 : decode cX6_takeBehind 38 = .ok (.iconst 4, 1) := by decide +kernel
theorem dX6_takeBehind_39 : decode cX6_takeBehind 39 = .ok (.putfield 83, 3) := by decide +kernel
theorem dX6_takeBehind_42 : decode cX6_takeBehind 42 = .ok (.iconst 1, 1) := by decide +kernel
theorem dX6_takeBehind_43 : decode cX6_takeBehind 43 = .ok (.ireturn, 1) := by decide +kernel
theorem dX6_takeBehind_44 : decode cX6_takeBehind 44 = .ok (.aload_n 0, 1) := by decide +kernel
theorem dX6_takeBehind_45 : decode cX6_takeBehind 45 = .ok (.iload_n 1, 1) := by decide +kernel
theorem dX6_takeBehind_46 : decode cX6_takeBehind 46 = .ok (.invokevirtual 96, 3) := by decide +kernel
theorem dX6_takeBehind_49 : decode cX6_takeBehind 49 = .ok (.ireturn, 1) := by decide +kernel
theorem dX6_addToStep_0 : decode cX6_addToStep 0 = .ok (.aload_n 0, 1) := by decide +kernel
theorem dX6_addToStep_1 : decode cX6_addToStep 1 = .ok (.getfield 50, 3) := by decide +kernel
theorem dX6_addToStep_4 : decode cX6_addToStep 4 = .ok (.iconst 4, 1) := by decide +kernel
theorem dX6_addToStep_5 : decode cX6_addToStep 5 = .ok (.aload_n 0, 1) := by decide +kernel
theorem dX6_addToStep_6 : decode cX6_addToStep 6 = .ok (.getfield 89, 3) := by decide +kernel
theorem dX6_addToStep_9 : decode cX6_addToStep 9 = .ok (.imul, 1) := by decide +kernel
theorem dX6_addToStep_10 : decode cX6_addToStep 10 = .ok (.aload_n 0, 1) := by decide +kernel
theorem dX6_addToStep_11 : decode cX6_addToStep 11 = .ok (.getfield 47, 3) := by decide +kernel
theorem dX6_addToStep_14 : decode cX6_addToStep 14 = .ok (.aload_n 0, 1) := by decide +kernel
theorem dX6_addToStep_15 : decode cX6_addToStep 15 = .ok (.getfield 89, 3) := by decide +kernel
theorem dX6_addToStep_18 : decode cX6_addToStep 18 = .ok (.iaload, 1) := by decide +kernel
theorem dX6_addToStep_19 : decode cX6_addToStep 19 = .ok (.iadd, 1) := by decide +kernel
theorem dX6_addToStep_20 : decode cX6_addToStep 20 = .ok (.iconst 1, 1) := by decide +kernel
theorem dX6_addToStep_21 : decode cX6_addToStep 21 = .ok (.isub, 1) := by decide +kernel
theorem dX6_addToStep_22 : decode cX6_addToStep 22 = .ok (.dup2, 1) := by decide +kernel
theorem dX6_addToStep_23 : decode cX6_addToStep 23 = .ok (.iaload, 1) := by decide +kernel
theorem dX6_addToStep_24 : decode cX6_addToStep 24 = .ok (.iload_n 1, 1) := by decide +kernel
theorem dX6_addToStep_25 : decode cX6_addToStep 25 = .ok (.iadd, 1) := by decide +kernel
theorem dX6_addToStep_26 : decode cX6_addToStep 26 = .ok (.iastore, 1) := by decide +kernel
theorem dX6_addToStep_27 : decode cX6_addToStep 27 = .ok (.return_, 1) := by decide +kernel
theorem dX6_take_0 : decode cX6_take 0 = .ok (.iload_n 1, 1) := by decide +kernel
theorem dX6_take_1 : decode cX6_take 1 = .ok (.bipush 97, 2) := by decide +kernel
theorem dX6_take_3 : decode cX6_take 3 = .ok (.isub, 1) := by decide +kernel
theorem dX6_take_4 : decode cX6_take 4 = .ok (.istore_n 2, 1) := by decide +kernel
theorem dX6_take_5 : decode cX6_take 5 = .ok (.aload_n 0, 1) := by decide +kernel
theorem dX6_take_6 : decode cX6_take 6 = .ok (.getfield 83, 3) := by decide +kernel
theorem dX6_take_9 : decode cX6_take 9 = .ok (.tableswitch 216 0 7 #[47, 53, 59, 106, 112, 169, 198, 106], 47) := by decide +kernel
theorem dX6_take_56 : decode cX6_take 56 = .ok (.aload_n 0, 1) := by decide +kernel
theorem dX6_take_57 : decode cX6_take 57 = .ok (.iload_n 1, 1) := by decide +kernel
theorem dX6_take_58 : decode cX6_take 58 = .ok (.invokevirtual 99, 3) := by decide +kernel
theorem dX6_take_61 : decode cX6_take 61 = .ok (.ireturn, 1) := by decide +kernel
theorem dX6_take_62 : decode cX6_take 62 = .ok (.aload_n 0, 1) := by decide +kernel
theorem dX6_take_63 : decode cX6_take 63 = .ok (.iload_n 1, 1) := by decide +kernel
theorem dX6_take_64 : decode cX6_take 64 = .ok (.invokevirtual 96, 3) := by decide +kernel
theorem dX6_take_67 : decode cX6_take 67 = .ok (.ireturn, 1) := by decide +kernel
theorem dX6_take_68 : decode cX6_take 68 = .ok (.aload_n 0, 1) := by decide +kernel
theorem dX6_take_69 : decode cX6_take 69 = .ok (.bipush 100, 2) := by decide +kernel
theorem dX6_take_71 : decode cX6_take 71 = .ok (.iload_n 1, 1) := by decide +kernel
theorem dX6_take_72 : decode cX6_take 72 = .ok (.bipush 42, 2) := by decide +kernel
theorem dX6_take_74 : decode cX6_take 74 = .ok (.if_icmp .ne 7, 3) := by decide +kernel
theorem dX6_take_77 : decode cX6_take 77 = .ok (.iconst 5, 1) := by decide +kernel
theorem dX6_take_78 : decode cX6_take 78 = .ok (.goto 4, 3) := by decide +kernel
theorem dX6_take_81 : decode cX6_take 81 = .ok (.iload_n 2, 1) := by decide +kernel
theorem dX6_take_82 : decode cX6_take 82 = .ok (.imul, 1) := by decide +kernel
theorem dX6_take_83 : decode cX6_take 83 = .ok (.invokevirtual 102, 3) := by decide +kernel
theorem dX6_take_86 : decode cX6_take 86 = .ok (.aload_n 0, 1) := by decide +kernel
theorem dX6_take_87 : decode cX6_take 87 = .ok (.iconst 3, 1) := by decide +kernel
theorem dX6_take_88 : decode cX6_take 88 = .ok (.putfield 83, 3) := by decide +kernel
theorem dX6_take_91 : decode cX6_take 91 = .ok (.iload_n 1, 1) := by decide +kernel
theorem dX6_take_92 : decode cX6_take 92 = .ok (.bipush 42, 2) := by decide +kernel
theorem dX6_take_94 : decode cX6_take 94 = .ok (.if_icmp .eq 15, 3) := by decide +kernel
theorem dX6_take_97 : decode cX6_take 97 = .ok (.iload_n 2, 1) := by decide +kernel
theorem dX6_take_98 : decode cX6_take 98 = .ok (.i2l, 1) := by decide +kernel
theorem dX6_take_99 : decode cX6_take 99 = .ok (.lconst 0, 1) := by decide +kernel
theorem dX6_take_100 : decode cX6_take 100 = .ok (.ldc2_w 106, 3) := by decide +kernel
theorem dX6_take_103 : decode cX6_take 103 = .ok (.invokestatic 64, 3) := by decide +kernel
theorem dX6_take_106 : decode cX6_take 106 = .ok (.ifCond .eq 7, 3) := by decide +kernel
theorem dX6_take_109 : decode cX6_take 109 = .ok (.iconst 1, 1) := by decide +kernel
theorem dX6_take_110 : decode cX6_take 110 = .ok (.goto 4, 3) := by decide +kernel
theorem dX6_take_113 : decode cX6_take 113 = .ok (.iconst 0, 1) := by decide +kernel
theorem dX6_take_114 : decode cX6_take 114 = .ok (.ireturn, 1) := by decide +kernel
theorem dX6_take_115 : decode cX6_take 115 = .ok (.aload_n 0, 1) := by decide +kernel
theorem dX6_take_116 : decode cX6_take 116 = .ok (.iload_n 1, 1) := by decide +kernel
theorem dX6_take_117 : decode cX6_take 117 = .ok (.invokevirtual 108, 3) := by decide +kernel
theorem dX6_take_120 : decode cX6_take 120 = .ok (.ireturn, 1) := by decide +kernel
theorem dX6_take_121 : decode cX6_take 121 = .ok (.aload_n 0, 1) := by decide +kernel
theorem dX6_take_122 : decode cX6_take 122 = .ok (.iload_n 1, 1) := by decide +kernel
theorem dX6_take_123 : decode cX6_take 123 = .ok (.bipush 61, 2) := by decide +kernel
theorem dX6_take_125 : decode cX6_take 125 = .ok (.if_icmp .ne 7, 3) := by decide +kernel
theorem dX6_take_128 : decode cX6_take 128 = .ok (.iconst 5, 1) := by decide +kernel
theorem dX6_take_129 : decode cX6_take 129 = .ok (.goto 5, 3) := by decide +kernel
theorem dX6_take_132 : decode cX6_take 132 = .ok (.bipush 6, 2) := by decide +kernel
theorem dX6_take_134 : decode cX6_take 134 = .ok (.putfield 83, 3) := by decide +kernel
theorem dX6_take_137 : decode cX6_take 137 = .ok (.aload_n 0, 1) := by decide +kernel
theorem dX6_take_138 : decode cX6_take 138 = .ok (.iload_n 1, 1) := by decide +kernel
theorem dX6_take_139 : decode cX6_take 139 = .ok (.bipush 61, 2) := by decide +kernel
theorem dX6_take_141 : decode cX6_take 141 = .ok (.if_icmp .ne 7, 3) := by decide +kernel
theorem dX6_take_144 : decode cX6_take 144 = .ok (.iconst 0, 1) := by decide +kernel
theorem dX6_take_145 : decode cX6_take 145 = .ok (.goto 6, 3) := by decide +kernel
theorem dX6_take_148 : decode cX6_take 148 = .ok (.iload_n 2, 1) := by decide +kernel
theorem dX6_take_149 : decode cX6_take 149 = .ok (.iconst 1, 1) := by decide +kernel
theorem dX6_take_150 : decode cX6_take 150 = .ok (.iadd, 1) := by decide +kernel
theorem dX6_take_151 : decode cX6_take 151 = .ok (.invokevirtual 102, 3) := by decide +kernel
theorem dX6_take_154 : decode cX6_take 154 = .ok (.iload_n 1, 1) := by decide +kernel
theorem dX6_take_155 : decode cX6_take 155 = .ok (.bipush 61, 2) := by decide +kernel
theorem dX6_take_157 : decode cX6_take 157 = .ok (.if_icmp .eq 15, 3) := by decide +kernel
theorem dX6_take_160 : decode cX6_take 160 = .ok (.iload_n 2, 1) := by decide +kernel
theorem dX6_take_161 : decode cX6_take 161 = .ok (.i2l, 1) := by decide +kernel
theorem dX6_take_162 : decode cX6_take 162 = .ok (.lconst 0, 1) := by decide +kernel
theorem dX6_take_163 : decode cX6_take 163 = .ok (.ldc2_w 106, 3) := by decide +kernel
theorem dX6_take_166 : decode cX6_take 166 = .ok (.invokestatic 64, 3) := by decide +kernel
theorem dX6_take_169 : decode cX6_take 169 = .ok (.ifCond .eq 7, 3) := by decide +kernel
theorem dX6_take_172 : decode cX6_take 172 = .ok (.iconst 1, 1) := by decide +kernel
theorem dX6_take_173 : decode cX6_take 173 = .ok (.goto 4, 3) := by decide +kernel
theorem dX6_take_176 : decode cX6_take 176 = .ok (.iconst 0, 1) := by decide +kernel
theorem dX6_take_177 : decode cX6_take 177 = .ok (.ireturn, 1) := by decide +kernel
theorem dX6_take_178 : decode cX6_take 178 = .ok (.aload_n 0, 1) := by decide +kernel
theorem dX6_take_179 : decode cX6_take 179 = .ok (.bipush 6, 2) := by decide +kernel
theorem dX6_take_181 : decode cX6_take 181 = .ok (.putfield 83, 3) := by decide +kernel
theorem dX6_take_184 : decode cX6_take 184 = .ok (.aload_n 0, 1) := by decide +kernel
theorem dX6_take_185 : decode cX6_take 185 = .ok (.iload_n 1, 1) := by decide +kernel
theorem dX6_take_186 : decode cX6_take 186 = .ok (.bipush 48, 2) := by decide +kernel
theorem dX6_take_188 : decode cX6_take 188 = .ok (.isub, 1) := by decide +kernel
theorem dX6_take_189 : decode cX6_take 189 = .ok (.bipush 6, 2) := by decide +kernel
theorem dX6_take_191 : decode cX6_take 191 = .ok (.iadd, 1) := by decide +kernel
theorem dX6_take_192 : decode cX6_take 192 = .ok (.invokevirtual 102, 3) := by decide +kernel
theorem dX6_take_195 : decode cX6_take 195 = .ok (.iload_n 1, 1) := by decide +kernel
theorem dX6_take_196 : decode cX6_take 196 = .ok (.i2l, 1) := by decide +kernel
theorem dX6_take_197 : decode cX6_take 197 = .ok (.ldc2_w 73, 3) := by decide +kernel
theorem dX6_take_200 : decode cX6_take 200 = .ok (.ldc2_w 75, 3) := by decide +kernel
theorem dX6_take_203 : decode cX6_take 203 = .ok (.invokestatic 64, 3) := by decide +kernel
theorem dX6_take_206 : decode cX6_take 206 = .ok (.ireturn, 1) := by decide +kernel
theorem dX6_take_207 : decode cX6_take 207 = .ok (.aload_n 0, 1) := by decide +kernel
theorem dX6_take_208 : decode cX6_take 208 = .ok (.bipush 7, 2) := by decide +kernel
theorem dX6_take_210 : decode cX6_take 210 = .ok (.putfield 83, 3) := by decide +kernel
theorem dX6_take_213 : decode cX6_take 213 = .ok (.iload_n 1, 1) := by decide +kernel
theorem dX6_take_214 : decode cX6_take 214 = .ok (.bipush 93, 2) := by decide +kernel
theorem dX6_take_216 : decode cX6_take 216 = .ok (.if_icmp .ne 7, 3) := by decide +kernel
theorem dX6_take_219 : decode cX6_take 219 = .ok (.iconst 1, 1) := by decide +kernel
theorem dX6_take_220 : decode cX6_take 220 = .ok (.goto 4, 3) := by decide +kernel
theorem dX6_take_223 : decode cX6_take 223 = .ok (.iconst 0, 1) := by decide +kernel
theorem dX6_take_224 : decode cX6_take 224 = .ok (.ireturn, 1) := by decide +kernel
theorem dX6_take_225 : decode cX6_take 225 = .ok (.aload_n 0, 1) := by decide +kernel
theorem dX6_take_226 : decode cX6_take 226 = .ok (.getfield 53, 3) := by decide +kernel
theorem dX6_take_229 : decode cX6_take 229 = .ok (.aload_n 0, 1) := by decide +kernel
theorem dX6_take_230 : decode cX6_take 230 = .ok (.getfield 77, 3) := by decide +kernel
theorem dX6_take_233 : decode cX6_take 233 = .ok (.iload_n 2, 1) := by decide +kernel
theorem dX6_take_234 : decode cX6_take 234 = .ok (.iastore, 1) := by decide +kernel
theorem dX6_take_235 : decode cX6_take 235 = .ok (.aload_n 0, 1) := by decide +kernel
theorem dX6_take_236 : decode cX6_take 236 = .ok (.dup, 1) := by decide +kernel
theorem dX6_take_237 : decode cX6_take 237 = .ok (.getfield 77, 3) := by decide +kernel
theorem dX6_take_240 : decode cX6_take 240 = .ok (.iconst 1, 1) := by decide +kernel
theorem dX6_take_241 : decode cX6_take 241 = .ok (.iadd, 1) := by decide +kernel
theorem dX6_take_242 : decode cX6_take 242 = .ok (.putfield 77, 3) := by decide +kernel
theorem dX6_take_245 : decode cX6_take 245 = .ok (.aload_n 0, 1) := by decide +kernel
theorem dX6_take_246 : decode cX6_take 246 = .ok (.dup, 1) := by decide +kernel
theorem dX6_take_247 : decode cX6_take 247 = .ok (.getfield 86, 3) := by decide +kernel
theorem dX6_take_250 : decode cX6_take 250 = .ok (.iconst 1, 1) := by decide +kernel
theorem dX6_take_251 : decode cX6_take 251 = .ok (.iadd, 1) := by decide +kernel
theorem dX6_take_252 : decode cX6_take 252 = .ok (.putfield 86, 3) := by decide +kernel
theorem dX6_take_255 : decode cX6_take 255 = .ok (.aload_n 0, 1) := by decide +kernel
theorem dX6_take_256 : decode cX6_take 256 = .ok (.dup, 1) := by decide +kernel
theorem dX6_take_257 : decode cX6_take 257 = .ok (.getfield 80, 3) := by decide +kernel
theorem dX6_take_260 : decode cX6_take 260 = .ok (.iconst 1, 1) := by decide +kernel
theorem dX6_take_261 : decode cX6_take 261 = .ok (.iadd, 1) := by decide +kernel
theorem dX6_take_262 : decode cX6_take 262 = .ok (.putfield 80, 3) := by decide +kernel
theorem dX6_take_265 : decode cX6_take 265 = .ok (.aload_n 0, 1) := by decide +kernel
theorem dX6_take_266 : decode cX6_take 266 = .ok (.iconst 0, 1) := by decide +kernel
theorem dX6_take_267 : decode cX6_take 267 = .ok (.putfield 83, 3) := by decide +kernel
theorem dX6_take_270 : decode cX6_take 270 = .ok (.iload_n 2, 1) := by decide +kernel
theorem dX6_take_271 : decode cX6_take 271 = .ok (.i2l, 1) := by decide +kernel
theorem dX6_take_272 : decode cX6_take 272 = .ok (.lconst 0, 1) := by decide +kernel
theorem dX6_take_273 : decode cX6_take 273 = .ok (.ldc2_w 106, 3) := by decide +kernel
theorem dX6_take_276 : decode cX6_take 276 = .ok (.invokestatic 64, 3) := by decide +kernel
theorem dX6_take_279 : decode cX6_take 279 = .ok (.ireturn, 1) := by decide +kernel
theorem dX6_readText_0 : decode cX6_readText 0 = .ok (.aload_n 0, 1) := by decide +kernel
theorem dX6_readText_1 : decode cX6_readText 1 = .ok (.iconst 0, 1) := by decide +kernel
theorem dX6_readText_2 : decode cX6_readText 2 = .ok (.putfield 83, 3) := by decide +kernel
theorem dX6_readText_5 : decode cX6_readText 5 = .ok (.aload_n 0, 1) := by decide +kernel
theorem dX6_readText_6 : decode cX6_readText 6 = .ok (.iconst 0, 1) := by decide +kernel
theorem dX6_readText_7 : decode cX6_readText 7 = .ok (.putfield 89, 3) := by decide +kernel
theorem dX6_readText_10 : decode cX6_readText 10 = .ok (.aload_n 0, 1) := by decide +kernel
theorem dX6_readText_11 : decode cX6_readText 11 = .ok (.iconst 0, 1) := by decide +kernel
theorem dX6_readText_12 : decode cX6_readText 12 = .ok (.putfield 77, 3) := by decide +kernel
theorem dX6_readText_15 : decode cX6_readText 15 = .ok (.aload_n 0, 1) := by decide +kernel
theorem dX6_readText_16 : decode cX6_readText 16 = .ok (.iconst 0, 1) := by decide +kernel
theorem dX6_readText_17 : decode cX6_readText 17 = .ok (.putfield 80, 3) := by decide +kernel
theorem dX6_readText_20 : decode cX6_readText 20 = .ok (.aload_n 0, 1) := by decide +kernel
theorem dX6_readText_21 : decode cX6_readText 21 = .ok (.iconst 0, 1) := by decide +kernel
theorem dX6_readText_22 : decode cX6_readText 22 = .ok (.putfield 86, 3) := by decide +kernel
theorem dX6_readText_25 : decode cX6_readText 25 = .ok (.aload_n 0, 1) := by decide +kernel
theorem dX6_readText_26 : decode cX6_readText 26 = .ok (.getfield 70, 3) := by decide +kernel
theorem dX6_readText_29 : decode cX6_readText 29 = .ok (.ifCond .eq 14, 3) := by decide +kernel
theorem dX6_readText_32 : decode cX6_readText 32 = .ok (.aload_n 0, 1) := by decide +kernel
theorem dX6_readText_33 : decode cX6_readText 33 = .ok (.getfield 7, 3) := by decide +kernel
theorem dX6_readText_36 : decode cX6_readText 36 = .ok (.iconst 0, 1) := by decide +kernel
theorem dX6_readText_37 : decode cX6_readText 37 = .ok (.iaload, 1) := by decide +kernel
theorem dX6_readText_38 : decode cX6_readText 38 = .ok (.bipush 68, 2) := by decide +kernel
theorem dX6_readText_40 : decode cX6_readText 40 = .ok (.if_icmp .eq 5, 3) := by decide +kernel
theorem dX6_readText_43 : decode cX6_readText 43 = .ok (.iconst 0, 1) := by decide +kernel
theorem dX6_readText_44 : decode cX6_readText 44 = .ok (.ireturn, 1) := by decide +kernel
theorem dX6_readText_45 : decode cX6_readText 45 = .ok (.iconst 1, 1) := by decide +kernel
theorem dX6_readText_46 : decode cX6_readText 46 = .ok (.istore_n 1, 1) := by decide +kernel
theorem dX6_readText_47 : decode cX6_readText 47 = .ok (.iload_n 1, 1) := by decide +kernel
theorem dX6_readText_48 : decode cX6_readText 48 = .ok (.aload_n 0, 1) := by decide +kernel
theorem dX6_readText_49 : decode cX6_readText 49 = .ok (.getfield 70, 3) := by decide +kernel
theorem dX6_readText_52 : decode cX6_readText 52 = .ok (.if_icmp .ge 24, 3) := by decide +kernel
theorem dX6_readText_55 : decode cX6_readText 55 = .ok (.aload_n 0, 1) := by decide +kernel
theorem dX6_readText_56 : decode cX6_readText 56 = .ok (.aload_n 0, 1) := by decide +kernel
theorem dX6_readText_57 : decode cX6_readText 57 = .ok (.getfield 7, 3) := by decide +kernel
theorem dX6_readText_60 : decode cX6_readText 60 = .ok (.iload_n 1, 1) := by decide +kernel
theorem dX6_readText_61 : decode cX6_readText 61 = .ok (.iaload, 1) := by decide +kernel
theorem dX6_readText_62 : decode cX6_readText 62 = .ok (.invokevirtual 111, 3) := by decide +kernel
theorem dX6_readText_65 : decode cX6_readText 65 = .ok (.ifCond .ne 5, 3) := by decide +kernel
theorem dX6_readText_68 : decode cX6_readText 68 = .ok (.iload_n 1, 1) := by decide +kernel
theorem dX6_readText_69 : decode cX6_readText 69 = .ok (.ireturn, 1) := by decide +kernel
theorem dX6_readText_70 : decode cX6_readText 70 = .ok (.iinc 1 1, 3) := by decide +kernel
theorem dX6_readText_73 : decode cX6_readText 73 = .ok (.goto (-26), 3) := by decide +kernel
theorem dX6_readText_76 : decode cX6_readText 76 = .ok (.aload_n 0, 1) := by decide +kernel
theorem dX6_readText_77 : decode cX6_readText 77 = .ok (.getfield 83, 3) := by decide +kernel
theorem dX6_readText_80 : decode cX6_readText 80 = .ok (.ifCond .ne 8, 3) := by decide +kernel
theorem dX6_readText_83 : decode cX6_readText 83 = .ok (.bipush (-9), 2) := by decide +kernel
theorem dX6_readText_85 : decode cX6_readText 85 = .ok (.goto 7, 3) := by decide +kernel
theorem dX6_readText_88 : decode cX6_readText 88 = .ok (.aload_n 0, 1) := by decide +kernel
theorem dX6_readText_89 : decode cX6_readText 89 = .ok (.getfield 70, 3) := by decide +kernel
theorem dX6_readText_92 : decode cX6_readText 92 = .ok (.ireturn, 1) := by decide +kernel
theorem dX6_fault_0 : decode cX6_fault 0 = .ok (.aload_n 0, 1) := by decide +kernel
theorem dX6_fault_1 : decode cX6_fault 1 = .ok (.invokevirtual 114, 3) := by decide +kernel
theorem dX6_fault_4 : decode cX6_fault 4 = .ok (.ireturn, 1) := by decide +kernel
theorem dX6_childNames_0 : decode cX6_childNames 0 = .ok (.iconst 0, 1) := by decide +kernel
theorem dX6_childNames_1 : decode cX6_childNames 1 = .ok (.istore_n 2, 1) := by decide +kernel
theorem dX6_childNames_2 : decode cX6_childNames 2 = .ok (.iconst 1, 1) := by decide +kernel
theorem dX6_childNames_3 : decode cX6_childNames 3 = .ok (.istore_n 3, 1) := by decide +kernel
theorem dX6_childNames_4 : decode cX6_childNames 4 = .ok (.iload_n 3, 1) := by decide +kernel
theorem dX6_childNames_5 : decode cX6_childNames 5 = .ok (.aload_n 0, 1) := by decide +kernel
theorem dX6_childNames_6 : decode cX6_childNames 6 = .ok (.bipush 80, 2) := by decide +kernel
theorem dX6_childNames_8 : decode cX6_childNames 8 = .ok (.iaload, 1) := by decide +kernel
theorem dX6_childNames_9 : decode cX6_childNames 9 = .ok (.if_icmp .ge 31, 3) := by decide +kernel
theorem dX6_childNames_12 : decode cX6_childNames 12 = .ok (.iload_n 2, 1) := by decide +kernel
theorem dX6_childNames_13 : decode cX6_childNames 13 = .ok (.aload_n 0, 1) := by decide +kernel
theorem dX6_childNames_14 : decode cX6_childNames 14 = .ok (.bipush 20, 2) := by decide +kernel
theorem dX6_childNames_16 : decode cX6_childNames 16 = .ok (.iload_n 3, 1) := by decide +kernel
theorem dX6_childNames_17 : decode cX6_childNames 17 = .ok (.iadd, 1) := by decide +kernel
theorem dX6_childNames_18 : decode cX6_childNames 18 = .ok (.iaload, 1) := by decide +kernel
theorem dX6_childNames_19 : decode cX6_childNames 19 = .ok (.iload_n 1, 1) := by decide +kernel
theorem dX6_childNames_20 : decode cX6_childNames 20 = .ok (.if_icmp .ne 11, 3) := by decide +kernel
theorem dX6_childNames_23 : decode cX6_childNames 23 = .ok (.iconst 1, 1) := by decide +kernel
theorem dX6_childNames_24 : decode cX6_childNames 24 = .ok (.aload_n 0, 1) := by decide +kernel
theorem dX6_childNames_25 : decode cX6_childNames 25 = .ok (.iload_n 3, 1) := by decide +kernel
theorem dX6_childNames_26 : decode cX6_childNames 26 = .ok (.iaload, 1) := by decide +kernel
theorem dX6_childNames_27 : decode cX6_childNames 27 = .ok (.ishl, 1) := by decide +kernel
theorem dX6_childNames_28 : decode cX6_childNames 28 = .ok (.goto 4, 3) := by decide +kernel
theorem dX6_childNames_31 : decode cX6_childNames 31 = .ok (.iconst 0, 1) := by decide +kernel
theorem dX6_childNames_32 : decode cX6_childNames 32 = .ok (.ior, 1) := by decide +kernel
theorem dX6_childNames_33 : decode cX6_childNames 33 = .ok (.istore_n 2, 1) := by decide +kernel
theorem dX6_childNames_34 : decode cX6_childNames 34 = .ok (.iinc 3 1, 3) := by decide +kernel
theorem dX6_childNames_37 : decode cX6_childNames 37 = .ok (.goto (-33), 3) := by decide +kernel
theorem dX6_childNames_40 : decode cX6_childNames 40 = .ok (.iload_n 2, 1) := by decide +kernel
theorem dX6_childNames_41 : decode cX6_childNames 41 = .ok (.ireturn, 1) := by decide +kernel
theorem dX6_isMet_0 : decode cX6_isMet 0 = .ok (.iload_n 2, 1) := by decide +kernel
theorem dX6_isMet_1 : decode cX6_isMet 1 = .ok (.ifCond .eq 18, 3) := by decide +kernel
theorem dX6_isMet_4 : decode cX6_isMet 4 = .ok (.iload 4, 2) := by decide +kernel
theorem dX6_isMet_6 : decode cX6_isMet 6 = .ok (.ifCond .eq 15, 3) := by decide +kernel
theorem dX6_isMet_9 : decode cX6_isMet 9 = .ok (.aload_n 1, 1) := by decide +kernel
theorem dX6_isMet_10 : decode cX6_isMet 10 = .ok (.bipush 40, 2) := by decide +kernel
theorem dX6_isMet_12 : decode cX6_isMet 12 = .ok (.iload_n 3, 1) := by decide +kernel
theorem dX6_isMet_13 : decode cX6_isMet 13 = .ok (.iadd, 1) := by decide +kernel
theorem dX6_isMet_14 : decode cX6_isMet 14 = .ok (.iaload, 1) := by decide +kernel
theorem dX6_isMet_15 : decode cX6_isMet 15 = .ok (.iconst 1, 1) := by decide +kernel
theorem dX6_isMet_16 : decode cX6_isMet 16 = .ok (.if_icmp .ne 5, 3) := by decide +kernel
theorem dX6_isMet_19 : decode cX6_isMet 19 = .ok (.iconst 1, 1) := by decide +kernel
theorem dX6_isMet_20 : decode cX6_isMet 20 = .ok (.ireturn, 1) := by decide +kernel
theorem dX6_isMet_21 : decode cX6_isMet 21 = .ok (.iload_n 2, 1) := by decide +kernel
theorem dX6_isMet_22 : decode cX6_isMet 22 = .ok (.bipush 6, 2) := by decide +kernel
theorem dX6_isMet_24 : decode cX6_isMet 24 = .ok (.if_icmp .ge 17, 3) := by decide +kernel
theorem dX6_isMet_27 : decode cX6_isMet 27 = .ok (.aload_n 1, 1) := by decide +kernel
theorem dX6_isMet_28 : decode cX6_isMet 28 = .ok (.iload_n 3, 1) := by decide +kernel
theorem dX6_isMet_29 : decode cX6_isMet 29 = .ok (.invokestatic 118, 3) := by decide +kernel
theorem dX6_isMet_32 : decode cX6_isMet 32 = .ok (.iload_n 2, 1) := by decide +kernel
theorem dX6_isMet_33 : decode cX6_isMet 33 = .ok (.iconst 1, 1) := by decide +kernel
theorem dX6_isMet_34 : decode cX6_isMet 34 = .ok (.isub, 1) := by decide +kernel
theorem dX6_isMet_35 : decode cX6_isMet 35 = .ok (.invokestatic 122, 3) := by decide +kernel
theorem dX6_isMet_38 : decode cX6_isMet 38 = .ok (.goto 16, 3) := by decide +kernel
theorem dX6_isMet_41 : decode cX6_isMet 41 = .ok (.aload_n 1, 1) := by decide +kernel
theorem dX6_isMet_42 : decode cX6_isMet 42 = .ok (.bipush 60, 2) := by decide +kernel
theorem dX6_isMet_44 : decode cX6_isMet 44 = .ok (.iload_n 3, 1) := by decide +kernel
theorem dX6_isMet_45 : decode cX6_isMet 45 = .ok (.iadd, 1) := by decide +kernel
theorem dX6_isMet_46 : decode cX6_isMet 46 = .ok (.iaload, 1) := by decide +kernel
theorem dX6_isMet_47 : decode cX6_isMet 47 = .ok (.iload_n 2, 1) := by decide +kernel
theorem dX6_isMet_48 : decode cX6_isMet 48 = .ok (.bipush 6, 2) := by decide +kernel
theorem dX6_isMet_50 : decode cX6_isMet 50 = .ok (.isub, 1) := by decide +kernel
theorem dX6_isMet_51 : decode cX6_isMet 51 = .ok (.invokestatic 122, 3) := by decide +kernel
theorem dX6_isMet_54 : decode cX6_isMet 54 = .ok (.ireturn, 1) := by decide +kernel
theorem dX6_layWay_0 : decode cX6_layWay 0 = .ok (.iconst 0, 1) := by decide +kernel
theorem dX6_layWay_1 : decode cX6_layWay 1 = .ok (.istore_n 3, 1) := by decide +kernel
theorem dX6_layWay_2 : decode cX6_layWay 2 = .ok (.iload_n 2, 1) := by decide +kernel
theorem dX6_layWay_3 : decode cX6_layWay 3 = .ok (.istore 4, 2) := by decide +kernel
theorem dX6_layWay_5 : decode cX6_layWay 5 = .ok (.iload 4, 2) := by decide +kernel
theorem dX6_layWay_7 : decode cX6_layWay 7 = .ok (.bipush (-9), 2) := by decide +kernel
theorem dX6_layWay_9 : decode cX6_layWay 9 = .ok (.if_icmp .eq 18, 3) := by decide +kernel
theorem dX6_layWay_12 : decode cX6_layWay 12 = .ok (.iinc 3 1, 3) := by decide +kernel
theorem dX6_layWay_15 : decode cX6_layWay 15 = .ok (.aload_n 1, 1) := by decide +kernel
theorem dX6_layWay_16 : decode cX6_layWay 16 = .ok (.bipush 20, 2) := by decide +kernel
theorem dX6_layWay_18 : decode cX6_layWay 18 = .ok (.iload 4, 2) := by decide +kernel
theorem dX6_layWay_20 : decode cX6_layWay 20 = .ok (.iadd, 1) := by decide +kernel
theorem dX6_layWay_21 : decode cX6_layWay 21 = .ok (.iaload, 1) := by decide +kernel
theorem dX6_layWay_22 : decode cX6_layWay 22 = .ok (.istore 4, 2) := by decide +kernel
theorem dX6_layWay_24 : decode cX6_layWay 24 = .ok (.goto (-19), 3) := by decide +kernel
theorem dX6_layWay_27 : decode cX6_layWay 27 = .ok (.iload_n 3, 1) := by decide +kernel
theorem dX6_layWay_28 : decode cX6_layWay 28 = .ok (.istore 4, 2) := by decide +kernel
theorem dX6_layWay_30 : decode cX6_layWay 30 = .ok (.iload_n 2, 1) := by decide +kernel
theorem dX6_layWay_31 : decode cX6_layWay 31 = .ok (.istore 5, 2) := by decide +kernel
theorem dX6_layWay_33 : decode cX6_layWay 33 = .ok (.iload 5, 2) := by decide +kernel
theorem dX6_layWay_35 : decode cX6_layWay 35 = .ok (.bipush (-9), 2) := by decide +kernel
theorem dX6_layWay_37 : decode cX6_layWay 37 = .ok (.if_icmp .eq 27, 3) := by decide +kernel
theorem dX6_layWay_40 : decode cX6_layWay 40 = .ok (.iinc 4 (-1), 3) := by decide +kernel
theorem dX6_layWay_43 : decode cX6_layWay 43 = .ok (.aload_n 0, 1) := by decide +kernel
theorem dX6_layWay_44 : decode cX6_layWay 44 = .ok (.getfield 35, 3) := by decide +kernel
theorem dX6_layWay_47 : decode cX6_layWay 47 = .ok (.iload 4, 2) := by decide +kernel
theorem dX6_layWay_49 : decode cX6_layWay 49 = .ok (.iload 5, 2) := by decide +kernel
theorem dX6_layWay_51 : decode cX6_layWay 51 = .ok (.iastore, 1) := by decide +kernel
theorem dX6_layWay_52 : decode cX6_layWay 52 = .ok (.aload_n 1, 1) := by decide +kernel
theorem dX6_layWay_53 : decode cX6_layWay 53 = .ok (.bipush 20, 2) := by decide +kernel
theorem dX6_layWay_55 : decode cX6_layWay 55 = .ok (.iload 5, 2) := by decide +kernel
theorem dX6_layWay_57 : decode cX6_layWay 57 = .ok (.iadd, 1) := by decide +kernel
theorem dX6_layWay_58 : decode cX6_layWay 58 = .ok (.iaload, 1) := by decide +kernel
theorem dX6_layWay_59 : decode cX6_layWay 59 = .ok (.istore 5, 2) := by decide +kernel
theorem dX6_layWay_61 : decode cX6_layWay 61 = .ok (.goto (-28), 3) := by decide +kernel
theorem dX6_layWay_64 : decode cX6_layWay 64 = .ok (.iload_n 3, 1) := by decide +kernel
theorem dX6_layWay_65 : decode cX6_layWay 65 = .ok (.ireturn, 1) := by decide +kernel
theorem dX6_endsAt_0 : decode cX6_endsAt 0 = .ok (.iconst 0, 1) := by decide +kernel
theorem dX6_endsAt_1 : decode cX6_endsAt 1 = .ok (.istore 7, 2) := by decide +kernel
theorem dX6_endsAt_3 : decode cX6_endsAt 3 = .ok (.aload_n 1, 1) := by decide +kernel
theorem dX6_endsAt_4 : decode cX6_endsAt 4 = .ok (.bipush 84, 2) := by decide +kernel
theorem dX6_endsAt_6 : decode cX6_endsAt 6 = .ok (.iload_n 2, 1) := by decide +kernel
theorem dX6_endsAt_7 : decode cX6_endsAt 7 = .ok (.iadd, 1) := by decide +kernel
theorem dX6_endsAt_8 : decode cX6_endsAt 8 = .ok (.iaload, 1) := by decide +kernel
theorem dX6_endsAt_9 : decode cX6_endsAt 9 = .ok (.istore 8, 2) := by decide +kernel
theorem dX6_endsAt_11 : decode cX6_endsAt 11 = .ok (.iconst 0, 1) := by decide +kernel
theorem dX6_endsAt_12 : decode cX6_endsAt 12 = .ok (.istore 9, 2) := by decide +kernel
theorem dX6_endsAt_14 : decode cX6_endsAt 14 = .ok (.iload 9, 2) := by decide +kernel
theorem dX6_endsAt_16 : decode cX6_endsAt 16 = .ok (.iload 8, 2) := by decide +kernel
theorem dX6_endsAt_18 : decode cX6_endsAt 18 = .ok (.if_icmp .ge 197, 3) := by decide +kernel
theorem dX6_endsAt_21 : decode cX6_endsAt 21 = .ok (.aload_n 1, 1) := by decide +kernel
theorem dX6_endsAt_22 : decode cX6_endsAt 22 = .ok (.bipush 89, 2) := by decide +kernel
theorem dX6_endsAt_24 : decode cX6_endsAt 24 = .ok (.iconst 4, 1) := by decide +kernel
theorem dX6_endsAt_25 : decode cX6_endsAt 25 = .ok (.iload_n 2, 1) := by decide +kernel
theorem dX6_endsAt_26 : decode cX6_endsAt 26 = .ok (.imul, 1) := by decide +kernel
theorem dX6_endsAt_27 : decode cX6_endsAt 27 = .ok (.iadd, 1) := by decide +kernel
theorem dX6_endsAt_28 : decode cX6_endsAt 28 = .ok (.iload 9, 2) := by decide +kernel
theorem dX6_endsAt_30 : decode cX6_endsAt 30 = .ok (.iadd, 1) := by decide +kernel
theorem dX6_endsAt_31 : decode cX6_endsAt 31 = .ok (.iaload, 1) := by decide +kernel
theorem dX6_endsAt_32 : decode cX6_endsAt 32 = .ok (.istore 10, 2) := by decide +kernel
theorem dX6_endsAt_34 : decode cX6_endsAt 34 = .ok (.iload 9, 2) := by decide +kernel
theorem dX6_endsAt_36 : decode cX6_endsAt 36 = .ok (.iload 8, 2) := by decide +kernel
theorem dX6_endsAt_38 : decode cX6_endsAt 38 = .ok (.iconst 1, 1) := by decide +kernel
theorem dX6_endsAt_39 : decode cX6_endsAt 39 = .ok (.isub, 1) := by decide +kernel
theorem dX6_endsAt_40 : decode cX6_endsAt 40 = .ok (.if_icmp .ne 19, 3) := by decide +kernel
theorem dX6_endsAt_43 : decode cX6_endsAt 43 = .ok (.aload_n 0, 1) := by decide +kernel
theorem dX6_endsAt_44 : decode cX6_endsAt 44 = .ok (.getfield 56, 3) := by decide +kernel
theorem dX6_endsAt_47 : decode cX6_endsAt 47 = .ok (.bipush (-9), 2) := by decide +kernel
theorem dX6_endsAt_49 : decode cX6_endsAt 49 = .ok (.if_icmp .eq 10, 3) := by decide +kernel
theorem dX6_endsAt_52 : decode cX6_endsAt 52 = .ok (.aload_n 0, 1) := by decide +kernel
theorem dX6_endsAt_53 : decode cX6_endsAt 53 = .ok (.getfield 56, 3) := by decide +kernel
theorem dX6_endsAt_56 : decode cX6_endsAt 56 = .ok (.goto 11, 3) := by decide +kernel
theorem dX6_endsAt_59 : decode cX6_endsAt 59 = .ok (.iload 10, 2) := by decide +kernel
theorem dX6_endsAt_61 : decode cX6_endsAt 61 = .ok (.bipush 100, 2) := by decide +kernel
theorem dX6_endsAt_63 : decode cX6_endsAt 63 = .ok (.idiv, 1) := by decide +kernel
theorem dX6_endsAt_64 : decode cX6_endsAt 64 = .ok (.bipush 10, 2) := by decide +kernel
theorem dX6_endsAt_66 : decode cX6_endsAt 66 = .ok (.irem, 1) := by decide +kernel
theorem dX6_endsAt_67 : decode cX6_endsAt 67 = .ok (.istore 11, 2) := by decide +kernel
theorem dX6_endsAt_69 : decode cX6_endsAt 69 = .ok (.iload 11, 2) := by decide +kernel
theorem dX6_endsAt_71 : decode cX6_endsAt 71 = .ok (.iconst 5, 1) := by decide +kernel
theorem dX6_endsAt_72 : decode cX6_endsAt 72 = .ok (.if_icmp .eq 11, 3) := by decide +kernel
theorem dX6_endsAt_75 : decode cX6_endsAt 75 = .ok (.iload 11, 2) := by decide +kernel
theorem dX6_endsAt_77 : decode cX6_endsAt 77 = .ok (.aload_n 1, 1) := by decide +kernel
theorem dX6_endsAt_78 : decode cX6_endsAt 78 = .ok (.iload_n 3, 1) := by decide +kernel
theorem dX6_endsAt_79 : decode cX6_endsAt 79 = .ok (.iaload, 1) := by decide +kernel
theorem dX6_endsAt_80 : decode cX6_endsAt 80 = .ok (.if_icmp .ne 23, 3) := by decide +kernel
theorem dX6_endsAt_83 : decode cX6_endsAt 83 = .ok (.aload_n 0, 1) := by decide +kernel
theorem dX6_endsAt_84 : decode cX6_endsAt 84 = .ok (.aload_n 1, 1) := by decide +kernel
theorem dX6_endsAt_85 : decode cX6_endsAt 85 = .ok (.iload 10, 2) := by decide +kernel
theorem dX6_endsAt_87 : decode cX6_endsAt 87 = .ok (.bipush 100, 2) := by decide +kernel
theorem dX6_endsAt_89 : decode cX6_endsAt 89 = .ok (.irem, 1) := by decide +kernel
theorem dX6_endsAt_90 : decode cX6_endsAt 90 = .ok (.iload_n 3, 1) := by decide +kernel
theorem dX6_endsAt_91 : decode cX6_endsAt 91 = .ok (.iload 6, 2) := by decide +kernel
theorem dX6_endsAt_93 : decode cX6_endsAt 93 = .ok (.invokevirtual 126, 3) := by decide +kernel
theorem dX6_endsAt_96 : decode cX6_endsAt 96 = .ok (.ifCond .eq 7, 3) := by decide +kernel
theorem dX6_endsAt_99 : decode cX6_endsAt 99 = .ok (.iconst 1, 1) := by decide +kernel
theorem dX6_endsAt_100 : decode cX6_endsAt 100 = .ok (.goto 4, 3) := by decide +kernel
theorem dX6_endsAt_103 : decode cX6_endsAt 103 = .ok (.iconst 0, 1) := by decide +kernel
theorem dX6_endsAt_104 : decode cX6_endsAt 104 = .ok (.istore 12, 2) := by decide +kernel
theorem dX6_endsAt_106 : decode cX6_endsAt 106 = .ok (.iload 9, 2) := by decide +kernel
theorem dX6_endsAt_108 : decode cX6_endsAt 108 = .ok (.ifCond .ne 25, 3) := by decide +kernel
theorem dX6_endsAt_111 : decode cX6_endsAt 111 = .ok (.iload 10, 2) := by decide +kernel
theorem dX6_endsAt_113 : decode cX6_endsAt 113 = .ok (.sipush 1000, 3) := by decide +kernel
theorem dX6_endsAt_116 : decode cX6_endsAt 116 = .ok (.if_icmp .ge 7, 3) := by decide +kernel
theorem dX6_endsAt_119 : decode cX6_endsAt 119 = .ok (.iload_n 3, 1) := by decide +kernel
theorem dX6_endsAt_120 : decode cX6_endsAt 120 = .ok (.ifCond .ne 7, 3) := by decide +kernel
theorem dX6_endsAt_123 : decode cX6_endsAt 123 = .ok (.iconst 1, 1) := by decide +kernel
theorem dX6_endsAt_124 : decode cX6_endsAt 124 = .ok (.goto 4, 3) := by decide +kernel
theorem dX6_endsAt_127 : decode cX6_endsAt 127 = .ok (.iconst 0, 1) := by decide +kernel
theorem dX6_endsAt_128 : decode cX6_endsAt 128 = .ok (.istore 13, 2) := by decide +kernel
theorem dX6_endsAt_130 : decode cX6_endsAt 130 = .ok (.goto 56, 3) := by decide +kernel
theorem dX6_endsAt_133 : decode cX6_endsAt 133 = .ok (.iload 10, 2) := by decide +kernel
theorem dX6_endsAt_135 : decode cX6_endsAt 135 = .ok (.sipush 1000, 3) := by decide +kernel
theorem dX6_endsAt_138 : decode cX6_endsAt 138 = .ok (.if_icmp .lt 17, 3) := by decide +kernel
theorem dX6_endsAt_141 : decode cX6_endsAt 141 = .ok (.iload 5, 2) := by decide +kernel
theorem dX6_endsAt_143 : decode cX6_endsAt 143 = .ok (.iload 9, 2) := by decide +kernel
theorem dX6_endsAt_145 : decode cX6_endsAt 145 = .ok (.iconst 1, 1) := by decide +kernel
theorem dX6_endsAt_146 : decode cX6_endsAt 146 = .ok (.isub, 1) := by decide +kernel
theorem dX6_endsAt_147 : decode cX6_endsAt 147 = .ok (.invokestatic 122, 3) := by decide +kernel
theorem dX6_endsAt_150 : decode cX6_endsAt 150 = .ok (.istore 13, 2) := by decide +kernel
theorem dX6_endsAt_152 : decode cX6_endsAt 152 = .ok (.goto 34, 3) := by decide +kernel
theorem dX6_endsAt_155 : decode cX6_endsAt 155 = .ok (.iload 4, 2) := by decide +kernel
theorem dX6_endsAt_157 : decode cX6_endsAt 157 = .ok (.ifCond .le 26, 3) := by decide +kernel
theorem dX6_endsAt_160 : decode cX6_endsAt 160 = .ok (.aload_n 0, 1) := by decide +kernel
theorem dX6_endsAt_161 : decode cX6_endsAt 161 = .ok (.getfield 38, 3) := by decide +kernel
theorem dX6_endsAt_164 : decode cX6_endsAt 164 = .ok (.iload 4, 2) := by decide +kernel
theorem dX6_endsAt_166 : decode cX6_endsAt 166 = .ok (.iconst 1, 1) := by decide +kernel
theorem dX6_endsAt_167 : decode cX6_endsAt 167 = .ok (.isub, 1) := by decide +kernel
theorem dX6_endsAt_168 : decode cX6_endsAt 168 = .ok (.iaload, 1) := by decide +kernel
theorem dX6_endsAt_169 : decode cX6_endsAt 169 = .ok (.iload 9, 2) := by decide +kernel
theorem dX6_endsAt_171 : decode cX6_endsAt 171 = .ok (.iconst 1, 1) := by decide +kernel
theorem dX6_endsAt_172 : decode cX6_endsAt 172 = .ok (.isub, 1) := by decide +kernel
theorem dX6_endsAt_173 : decode cX6_endsAt 173 = .ok (.invokestatic 122, 3) := by decide +kernel
theorem dX6_endsAt_176 : decode cX6_endsAt 176 = .ok (.ifCond .eq 7, 3) := by decide +kernel
theorem dX6_endsAt_179 : decode cX6_endsAt 179 = .ok (.iconst 1, 1) := by decide +kernel
theorem dX6_endsAt_180 : decode cX6_endsAt 180 = .ok (.goto 4, 3) := by decide +kernel
theorem dX6_endsAt_183 : decode cX6_endsAt 183 = .ok (.iconst 0, 1) := by decide +kernel
theorem dX6_endsAt_184 : decode cX6_endsAt 184 = .ok (.istore 13, 2) := by decide +kernel
theorem dX6_endsAt_186 : decode cX6_endsAt 186 = .ok (.iload 7, 2) := by decide +kernel
theorem dX6_endsAt_188 : decode cX6_endsAt 188 = .ok (.iload 12, 2) := by decide +kernel
theorem dX6_endsAt_190 : decode cX6_endsAt 190 = .ok (.ifCond .eq 15, 3) := by decide +kernel
theorem dX6_endsAt_193 : decode cX6_endsAt 193 = .ok (.iload 13, 2) := by decide +kernel
theorem dX6_endsAt_195 : decode cX6_endsAt 195 = .ok (.ifCond .eq 10, 3) := by decide +kernel
theorem dX6_endsAt_198 : decode cX6_endsAt 198 = .ok (.iconst 1, 1) := by decide +kernel
theorem dX6_endsAt_199 : decode cX6_endsAt 199 = .ok (.iload 9, 2) := by decide +kernel
theorem dX6_endsAt_201 : decode cX6_endsAt 201 = .ok (.ishl, 1) := by decide +kernel
theorem dX6_endsAt_202 : decode cX6_endsAt 202 = .ok (.goto 4, 3) := by decide +kernel
theorem dX6_endsAt_205 : decode cX6_endsAt 205 = .ok (.iconst 0, 1) := by decide +kernel
theorem dX6_endsAt_206 : decode cX6_endsAt 206 = .ok (.ior, 1) := by decide +kernel
theorem dX6_endsAt_207 : decode cX6_endsAt 207 = .ok (.istore 7, 2) := by decide +kernel
theorem dX6_endsAt_209 : decode cX6_endsAt 209 = .ok (.iinc 9 1, 3) := by decide +kernel
theorem dX6_endsAt_212 : decode cX6_endsAt 212 = .ok (.goto (-198), 3) := by decide +kernel
theorem dX6_endsAt_215 : decode cX6_endsAt 215 = .ok (.iload 7, 2) := by decide +kernel
theorem dX6_endsAt_217 : decode cX6_endsAt 217 = .ok (.ireturn, 1) := by decide +kernel
theorem dX6_endsOf_0 : decode cX6_endsOf 0 = .ok (.aload_n 0, 1) := by decide +kernel
theorem dX6_endsOf_1 : decode cX6_endsOf 1 = .ok (.aload_n 1, 1) := by decide +kernel
theorem dX6_endsOf_2 : decode cX6_endsOf 2 = .ok (.iload_n 3, 1) := by decide +kernel
theorem dX6_endsOf_3 : decode cX6_endsOf 3 = .ok (.invokevirtual 130, 3) := by decide +kernel
theorem dX6_endsOf_6 : decode cX6_endsOf 6 = .ok (.istore 5, 2) := by decide +kernel
theorem dX6_endsOf_8 : decode cX6_endsOf 8 = .ok (.iconst 0, 1) := by decide +kernel
theorem dX6_endsOf_9 : decode cX6_endsOf 9 = .ok (.istore 6, 2) := by decide +kernel
theorem dX6_endsOf_11 : decode cX6_endsOf 11 = .ok (.iconst 0, 1) := by decide +kernel
theorem dX6_endsOf_12 : decode cX6_endsOf 12 = .ok (.istore 7, 2) := by decide +kernel
theorem dX6_endsOf_14 : decode cX6_endsOf 14 = .ok (.iload 7, 2) := by decide +kernel
theorem dX6_endsOf_16 : decode cX6_endsOf 16 = .ok (.iload 5, 2) := by decide +kernel
theorem dX6_endsOf_18 : decode cX6_endsOf 18 = .ok (.if_icmp .ge 47, 3) := by decide +kernel
theorem dX6_endsOf_21 : decode cX6_endsOf 21 = .ok (.aload_n 0, 1) := by decide +kernel
theorem dX6_endsOf_22 : decode cX6_endsOf 22 = .ok (.getfield 38, 3) := by decide +kernel
theorem dX6_endsOf_25 : decode cX6_endsOf 25 = .ok (.iload 7, 2) := by decide +kernel
theorem dX6_endsOf_27 : decode cX6_endsOf 27 = .ok (.aload_n 0, 1) := by decide +kernel
theorem dX6_endsOf_28 : decode cX6_endsOf 28 = .ok (.aload_n 1, 1) := by decide +kernel
theorem dX6_endsOf_29 : decode cX6_endsOf 29 = .ok (.iload_n 2, 1) := by decide +kernel
theorem dX6_endsOf_30 : decode cX6_endsOf 30 = .ok (.aload_n 0, 1) := by decide +kernel
theorem dX6_endsOf_31 : decode cX6_endsOf 31 = .ok (.getfield 35, 3) := by decide +kernel
theorem dX6_endsOf_34 : decode cX6_endsOf 34 = .ok (.iload 7, 2) := by decide +kernel
theorem dX6_endsOf_36 : decode cX6_endsOf 36 = .ok (.iaload, 1) := by decide +kernel
theorem dX6_endsOf_37 : decode cX6_endsOf 37 = .ok (.iload 7, 2) := by decide +kernel
theorem dX6_endsOf_39 : decode cX6_endsOf 39 = .ok (.iload 6, 2) := by decide +kernel
theorem dX6_endsOf_41 : decode cX6_endsOf 41 = .ok (.iload 4, 2) := by decide +kernel
theorem dX6_endsOf_43 : decode cX6_endsOf 43 = .ok (.invokevirtual 133, 3) := by decide +kernel
theorem dX6_endsOf_46 : decode cX6_endsOf 46 = .ok (.iastore, 1) := by decide +kernel
theorem dX6_endsOf_47 : decode cX6_endsOf 47 = .ok (.iload 6, 2) := by decide +kernel
theorem dX6_endsOf_49 : decode cX6_endsOf 49 = .ok (.aload_n 0, 1) := by decide +kernel
theorem dX6_endsOf_50 : decode cX6_endsOf 50 = .ok (.getfield 38, 3) := by decide +kernel
theorem dX6_endsOf_53 : decode cX6_endsOf 53 = .ok (.iload 7, 2) := by decide +kernel
theorem dX6_endsOf_55 : decode cX6_endsOf 55 = .ok (.iaload, 1) := by decide +kernel
theorem dX6_endsOf_56 : decode cX6_endsOf 56 = .ok (.ior, 1) := by decide +kernel
theorem dX6_endsOf_57 : decode cX6_endsOf 57 = .ok (.istore 6, 2) := by decide +kernel
theorem dX6_endsOf_59 : decode cX6_endsOf 59 = .ok (.iinc 7 1, 3) := by decide +kernel
theorem dX6_endsOf_62 : decode cX6_endsOf 62 = .ok (.goto (-48), 3) := by decide +kernel
theorem dX6_endsOf_65 : decode cX6_endsOf 65 = .ok (.aload_n 0, 1) := by decide +kernel
theorem dX6_endsOf_66 : decode cX6_endsOf 66 = .ok (.getfield 38, 3) := by decide +kernel
theorem dX6_endsOf_69 : decode cX6_endsOf 69 = .ok (.iload 5, 2) := by decide +kernel
theorem dX6_endsOf_71 : decode cX6_endsOf 71 = .ok (.iconst 1, 1) := by decide +kernel
theorem dX6_endsOf_72 : decode cX6_endsOf 72 = .ok (.isub, 1) := by decide +kernel
theorem dX6_endsOf_73 : decode cX6_endsOf 73 = .ok (.iaload, 1) := by decide +kernel
theorem dX6_endsOf_74 : decode cX6_endsOf 74 = .ok (.ireturn, 1) := by decide +kernel
theorem dX6_endsAll_0 : decode cX6_endsAll 0 = .ok (.aload_n 0, 1) := by decide +kernel
theorem dX6_endsAll_1 : decode cX6_endsAll 1 = .ok (.aload_n 1, 1) := by decide +kernel
theorem dX6_endsAll_2 : decode cX6_endsAll 2 = .ok (.iload_n 2, 1) := by decide +kernel
theorem dX6_endsAll_3 : decode cX6_endsAll 3 = .ok (.iload_n 3, 1) := by decide +kernel
theorem dX6_endsAll_4 : decode cX6_endsAll 4 = .ok (.iload 4, 2) := by decide +kernel
theorem dX6_endsAll_6 : decode cX6_endsAll 6 = .ok (.invokevirtual 137, 3) := by decide +kernel
theorem dX6_endsAll_9 : decode cX6_endsAll 9 = .ok (.aload_n 1, 1) := by decide +kernel
theorem dX6_endsAll_10 : decode cX6_endsAll 10 = .ok (.bipush 84, 2) := by decide +kernel
theorem dX6_endsAll_12 : decode cX6_endsAll 12 = .ok (.iload_n 2, 1) := by decide +kernel
theorem dX6_endsAll_13 : decode cX6_endsAll 13 = .ok (.iadd, 1) := by decide +kernel
theorem dX6_endsAll_14 : decode cX6_endsAll 14 = .ok (.iaload, 1) := by decide +kernel
theorem dX6_endsAll_15 : decode cX6_endsAll 15 = .ok (.iconst 1, 1) := by decide +kernel
theorem dX6_endsAll_16 : decode cX6_endsAll 16 = .ok (.isub, 1) := by decide +kernel
theorem dX6_endsAll_17 : decode cX6_endsAll 17 = .ok (.invokestatic 122, 3) := by decide +kernel
theorem dX6_endsAll_20 : decode cX6_endsAll 20 = .ok (.ireturn, 1) := by decide +kernel
theorem dX6_answersOf_0 : decode cX6_answersOf 0 = .ok (.iconst 0, 1) := by decide +kernel
theorem dX6_answersOf_1 : decode cX6_answersOf 1 = .ok (.istore_n 3, 1) := by decide +kernel
theorem dX6_answersOf_2 : decode cX6_answersOf 2 = .ok (.iconst 0, 1) := by decide +kernel
theorem dX6_answersOf_3 : decode cX6_answersOf 3 = .ok (.istore 4, 2) := by decide +kernel
theorem dX6_answersOf_5 : decode cX6_answersOf 5 = .ok (.iload 4, 2) := by decide +kernel
theorem dX6_answersOf_7 : decode cX6_answersOf 7 = .ok (.aload_n 1, 1) := by decide +kernel
theorem dX6_answersOf_8 : decode cX6_answersOf 8 = .ok (.bipush 80, 2) := by decide +kernel
theorem dX6_answersOf_10 : decode cX6_answersOf 10 = .ok (.iaload, 1) := by decide +kernel
theorem dX6_answersOf_11 : decode cX6_answersOf 11 = .ok (.if_icmp .ge 32, 3) := by decide +kernel
theorem dX6_answersOf_14 : decode cX6_answersOf 14 = .ok (.iload_n 3, 1) := by decide +kernel
theorem dX6_answersOf_15 : decode cX6_answersOf 15 = .ok (.aload_n 0, 1) := by decide +kernel
theorem dX6_answersOf_16 : decode cX6_answersOf 16 = .ok (.aload_n 1, 1) := by decide +kernel
theorem dX6_answersOf_17 : decode cX6_answersOf 17 = .ok (.iload_n 2, 1) := by decide +kernel
theorem dX6_answersOf_18 : decode cX6_answersOf 18 = .ok (.iload 4, 2) := by decide +kernel
theorem dX6_answersOf_20 : decode cX6_answersOf 20 = .ok (.iconst 0, 1) := by decide +kernel
theorem dX6_answersOf_21 : decode cX6_answersOf 21 = .ok (.invokevirtual 141, 3) := by decide +kernel
theorem dX6_answersOf_24 : decode cX6_answersOf 24 = .ok (.ifCond .eq 10, 3) := by decide +kernel
theorem dX6_answersOf_27 : decode cX6_answersOf 27 = .ok (.iconst 1, 1) := by decide +kernel
theorem dX6_answersOf_28 : decode cX6_answersOf 28 = .ok (.iload 4, 2) := by decide +kernel
theorem dX6_answersOf_30 : decode cX6_answersOf 30 = .ok (.ishl, 1) := by decide +kernel
theorem dX6_answersOf_31 : decode cX6_answersOf 31 = .ok (.goto 4, 3) := by decide +kernel
theorem dX6_answersOf_34 : decode cX6_answersOf 34 = .ok (.iconst 0, 1) := by decide +kernel
theorem dX6_answersOf_35 : decode cX6_answersOf 35 = .ok (.ior, 1) := by decide +kernel
theorem dX6_answersOf_36 : decode cX6_answersOf 36 = .ok (.istore_n 3, 1) := by decide +kernel
theorem dX6_answersOf_37 : decode cX6_answersOf 37 = .ok (.iinc 4 1, 3) := by decide +kernel
theorem dX6_answersOf_40 : decode cX6_answersOf 40 = .ok (.goto (-35), 3) := by decide +kernel
theorem dX6_answersOf_43 : decode cX6_answersOf 43 = .ok (.iload_n 3, 1) := by decide +kernel
theorem dX6_answersOf_44 : decode cX6_answersOf 44 = .ok (.ireturn, 1) := by decide +kernel
theorem dX6_doubtsOf_0 : decode cX6_doubtsOf 0 = .ok (.iconst 0, 1) := by decide +kernel
theorem dX6_doubtsOf_1 : decode cX6_doubtsOf 1 = .ok (.istore_n 3, 1) := by decide +kernel
theorem dX6_doubtsOf_2 : decode cX6_doubtsOf 2 = .ok (.iconst 0, 1) := by decide +kernel
theorem dX6_doubtsOf_3 : decode cX6_doubtsOf 3 = .ok (.istore 4, 2) := by decide +kernel
theorem dX6_doubtsOf_5 : decode cX6_doubtsOf 5 = .ok (.iload 4, 2) := by decide +kernel
theorem dX6_doubtsOf_7 : decode cX6_doubtsOf 7 = .ok (.aload_n 1, 1) := by decide +kernel
theorem dX6_doubtsOf_8 : decode cX6_doubtsOf 8 = .ok (.bipush 80, 2) := by decide +kernel
theorem dX6_doubtsOf_10 : decode cX6_doubtsOf 10 = .ok (.iaload, 1) := by decide +kernel
theorem dX6_doubtsOf_11 : decode cX6_doubtsOf 11 = .ok (.if_icmp .ge 44, 3) := by decide +kernel
theorem dX6_doubtsOf_14 : decode cX6_doubtsOf 14 = .ok (.iload_n 3, 1) := by decide +kernel
theorem dX6_doubtsOf_15 : decode cX6_doubtsOf 15 = .ok (.aload_n 0, 1) := by decide +kernel
theorem dX6_doubtsOf_16 : decode cX6_doubtsOf 16 = .ok (.aload_n 1, 1) := by decide +kernel
theorem dX6_doubtsOf_17 : decode cX6_doubtsOf 17 = .ok (.iload_n 2, 1) := by decide +kernel
theorem dX6_doubtsOf_18 : decode cX6_doubtsOf 18 = .ok (.iload 4, 2) := by decide +kernel
theorem dX6_doubtsOf_20 : decode cX6_doubtsOf 20 = .ok (.iconst 1, 1) := by decide +kernel
theorem dX6_doubtsOf_21 : decode cX6_doubtsOf 21 = .ok (.invokevirtual 141, 3) := by decide +kernel
theorem dX6_doubtsOf_24 : decode cX6_doubtsOf 24 = .ok (.ifCond .eq 22, 3) := by decide +kernel
theorem dX6_doubtsOf_27 : decode cX6_doubtsOf 27 = .ok (.aload_n 0, 1) := by decide +kernel
theorem dX6_doubtsOf_28 : decode cX6_doubtsOf 28 = .ok (.aload_n 1, 1) := by decide +kernel
theorem dX6_doubtsOf_29 : decode cX6_doubtsOf 29 = .ok (.iload_n 2, 1) := by decide +kernel
theorem dX6_doubtsOf_30 : decode cX6_doubtsOf 30 = .ok (.iload 4, 2) := by decide +kernel
theorem dX6_doubtsOf_32 : decode cX6_doubtsOf 32 = .ok (.iconst 0, 1) := by decide +kernel
theorem dX6_doubtsOf_33 : decode cX6_doubtsOf 33 = .ok (.invokevirtual 141, 3) := by decide +kernel
theorem dX6_doubtsOf_36 : decode cX6_doubtsOf 36 = .ok (.ifCond .ne 10, 3) := by decide +kernel
theorem dX6_doubtsOf_39 : decode cX6_doubtsOf 39 = .ok (.iconst 1, 1) := by decide +kernel
theorem dX6_doubtsOf_40 : decode cX6_doubtsOf 40 = .ok (.iload 4, 2) := by decide +kernel
theorem dX6_doubtsOf_42 : decode cX6_doubtsOf 42 = .ok (.ishl, 1) := by decide +kernel
theorem dX6_doubtsOf_43 : decode cX6_doubtsOf 43 = .ok (.goto 4, 3) := by decide +kernel
theorem dX6_doubtsOf_46 : decode cX6_doubtsOf 46 = .ok (.iconst 0, 1) := by decide +kernel
theorem dX6_doubtsOf_47 : decode cX6_doubtsOf 47 = .ok (.ior, 1) := by decide +kernel
theorem dX6_doubtsOf_48 : decode cX6_doubtsOf 48 = .ok (.istore_n 3, 1) := by decide +kernel
theorem dX6_doubtsOf_49 : decode cX6_doubtsOf 49 = .ok (.iinc 4 1, 3) := by decide +kernel
theorem dX6_doubtsOf_52 : decode cX6_doubtsOf 52 = .ok (.goto (-47), 3) := by decide +kernel
theorem dX6_doubtsOf_55 : decode cX6_doubtsOf 55 = .ok (.iload_n 3, 1) := by decide +kernel
theorem dX6_doubtsOf_56 : decode cX6_doubtsOf 56 = .ok (.ireturn, 1) := by decide +kernel
theorem dX6_outOf_0 : decode cX6_outOf 0 = .ok (.aload_n 0, 1) := by decide +kernel
theorem dX6_outOf_1 : decode cX6_outOf 1 = .ok (.aload_n 1, 1) := by decide +kernel
theorem dX6_outOf_2 : decode cX6_outOf 2 = .ok (.iload_n 2, 1) := by decide +kernel
theorem dX6_outOf_3 : decode cX6_outOf 3 = .ok (.invokevirtual 144, 3) := by decide +kernel
theorem dX6_outOf_6 : decode cX6_outOf 6 = .ok (.istore_n 3, 1) := by decide +kernel
theorem dX6_outOf_7 : decode cX6_outOf 7 = .ok (.aload_n 0, 1) := by decide +kernel
theorem dX6_outOf_8 : decode cX6_outOf 8 = .ok (.aload_n 1, 1) := by decide +kernel
theorem dX6_outOf_9 : decode cX6_outOf 9 = .ok (.iload_n 2, 1) := by decide +kernel
theorem dX6_outOf_10 : decode cX6_outOf 10 = .ok (.invokevirtual 147, 3) := by decide +kernel
theorem dX6_outOf_13 : decode cX6_outOf 13 = .ok (.istore 4, 2) := by decide +kernel
theorem dX6_outOf_15 : decode cX6_outOf 15 = .ok (.iconst 0, 1) := by decide +kernel
theorem dX6_outOf_16 : decode cX6_outOf 16 = .ok (.istore 5, 2) := by decide +kernel
theorem dX6_outOf_18 : decode cX6_outOf 18 = .ok (.iconst 1, 1) := by decide +kernel
theorem dX6_outOf_19 : decode cX6_outOf 19 = .ok (.istore 6, 2) := by decide +kernel
theorem dX6_outOf_21 : decode cX6_outOf 21 = .ok (.iconst 0, 1) := by decide +kernel
theorem dX6_outOf_22 : decode cX6_outOf 22 = .ok (.istore 7, 2) := by decide +kernel
theorem dX6_outOf_24 : decode cX6_outOf 24 = .ok (.iload 7, 2) := by decide +kernel
theorem dX6_outOf_26 : decode cX6_outOf 26 = .ok (.aload_n 1, 1) := by decide +kernel
theorem dX6_outOf_27 : decode cX6_outOf 27 = .ok (.bipush 80, 2) := by decide +kernel
theorem dX6_outOf_29 : decode cX6_outOf 29 = .ok (.iaload, 1) := by decide +kernel
theorem dX6_outOf_30 : decode cX6_outOf 30 = .ok (.if_icmp .ge 58, 3) := by decide +kernel
theorem dX6_outOf_33 : decode cX6_outOf 33 = .ok (.iload 6, 2) := by decide +kernel
theorem dX6_outOf_35 : decode cX6_outOf 35 = .ok (.ifCond .eq 17, 3) := by decide +kernel
theorem dX6_outOf_38 : decode cX6_outOf 38 = .ok (.iload 4, 2) := by decide +kernel
theorem dX6_outOf_40 : decode cX6_outOf 40 = .ok (.iload 7, 2) := by decide +kernel
theorem dX6_outOf_42 : decode cX6_outOf 42 = .ok (.invokestatic 122, 3) := by decide +kernel
theorem dX6_outOf_45 : decode cX6_outOf 45 = .ok (.ifCond .ne 7, 3) := by decide +kernel
theorem dX6_outOf_48 : decode cX6_outOf 48 = .ok (.iconst 1, 1) := by decide +kernel
theorem dX6_outOf_49 : decode cX6_outOf 49 = .ok (.goto 4, 3) := by decide +kernel
theorem dX6_outOf_52 : decode cX6_outOf 52 = .ok (.iconst 0, 1) := by decide +kernel
theorem dX6_outOf_53 : decode cX6_outOf 53 = .ok (.istore 6, 2) := by decide +kernel
theorem dX6_outOf_55 : decode cX6_outOf 55 = .ok (.iload 5, 2) := by decide +kernel
theorem dX6_outOf_57 : decode cX6_outOf 57 = .ok (.iload 6, 2) := by decide +kernel
theorem dX6_outOf_59 : decode cX6_outOf 59 = .ok (.ifCond .eq 19, 3) := by decide +kernel
theorem dX6_outOf_62 : decode cX6_outOf 62 = .ok (.iload_n 3, 1) := by decide +kernel
theorem dX6_outOf_63 : decode cX6_outOf 63 = .ok (.iload 7, 2) := by decide +kernel
theorem dX6_outOf_65 : decode cX6_outOf 65 = .ok (.invokestatic 122, 3) := by decide +kernel
theorem dX6_outOf_68 : decode cX6_outOf 68 = .ok (.ifCond .eq 10, 3) := by decide +kernel
theorem dX6_outOf_71 : decode cX6_outOf 71 = .ok (.iconst 1, 1) := by decide +kernel
theorem dX6_outOf_72 : decode cX6_outOf 72 = .ok (.iload 7, 2) := by decide +kernel
theorem dX6_outOf_74 : decode cX6_outOf 74 = .ok (.ishl, 1) := by decide +kernel
theorem dX6_outOf_75 : decode cX6_outOf 75 = .ok (.goto 4, 3) := by decide +kernel
theorem dX6_outOf_78 : decode cX6_outOf 78 = .ok (.iconst 0, 1) := by decide +kernel
theorem dX6_outOf_79 : decode cX6_outOf 79 = .ok (.ior, 1) := by decide +kernel
theorem dX6_outOf_80 : decode cX6_outOf 80 = .ok (.istore 5, 2) := by decide +kernel
theorem dX6_outOf_82 : decode cX6_outOf 82 = .ok (.iinc 7 1, 3) := by decide +kernel
theorem dX6_outOf_85 : decode cX6_outOf 85 = .ok (.goto (-61), 3) := by decide +kernel
theorem dX6_outOf_88 : decode cX6_outOf 88 = .ok (.iload 5, 2) := by decide +kernel
theorem dX6_outOf_90 : decode cX6_outOf 90 = .ok (.ireturn, 1) := by decide +kernel
theorem dX6_heldOf_0 : decode cX6_heldOf 0 = .ok (.aload_n 0, 1) := by decide +kernel
theorem dX6_heldOf_1 : decode cX6_heldOf 1 = .ok (.aload_n 1, 1) := by decide +kernel
theorem dX6_heldOf_2 : decode cX6_heldOf 2 = .ok (.iload_n 2, 1) := by decide +kernel
theorem dX6_heldOf_3 : decode cX6_heldOf 3 = .ok (.invokevirtual 144, 3) := by decide +kernel
theorem dX6_heldOf_6 : decode cX6_heldOf 6 = .ok (.aload_n 0, 1) := by decide +kernel
theorem dX6_heldOf_7 : decode cX6_heldOf 7 = .ok (.aload_n 1, 1) := by decide +kernel
theorem dX6_heldOf_8 : decode cX6_heldOf 8 = .ok (.iload_n 2, 1) := by decide +kernel
theorem dX6_heldOf_9 : decode cX6_heldOf 9 = .ok (.invokevirtual 150, 3) := by decide +kernel
theorem dX6_heldOf_12 : decode cX6_heldOf 12 = .ok (.iconst (-1), 1) := by decide +kernel
theorem dX6_heldOf_13 : decode cX6_heldOf 13 = .ok (.ixor, 1) := by decide +kernel
theorem dX6_heldOf_14 : decode cX6_heldOf 14 = .ok (.iand, 1) := by decide +kernel
theorem dX6_heldOf_15 : decode cX6_heldOf 15 = .ok (.invokestatic 153, 3) := by decide +kernel
theorem dX6_heldOf_18 : decode cX6_heldOf 18 = .ok (.aload_n 0, 1) := by decide +kernel
theorem dX6_heldOf_19 : decode cX6_heldOf 19 = .ok (.aload_n 1, 1) := by decide +kernel
theorem dX6_heldOf_20 : decode cX6_heldOf 20 = .ok (.iload_n 2, 1) := by decide +kernel
theorem dX6_heldOf_21 : decode cX6_heldOf 21 = .ok (.invokevirtual 147, 3) := by decide +kernel
theorem dX6_heldOf_24 : decode cX6_heldOf 24 = .ok (.invokestatic 153, 3) := by decide +kernel
theorem dX6_heldOf_27 : decode cX6_heldOf 27 = .ok (.iadd, 1) := by decide +kernel
theorem dX6_heldOf_28 : decode cX6_heldOf 28 = .ok (.ireturn, 1) := by decide +kernel
theorem dX6_noteOut_0 : decode cX6_noteOut 0 = .ok (.aload_n 0, 1) := by decide +kernel
theorem dX6_noteOut_1 : decode cX6_noteOut 1 = .ok (.aload_n 1, 1) := by decide +kernel
theorem dX6_noteOut_2 : decode cX6_noteOut 2 = .ok (.iload_n 2, 1) := by decide +kernel
theorem dX6_noteOut_3 : decode cX6_noteOut 3 = .ok (.invokevirtual 150, 3) := by decide +kernel
theorem dX6_noteOut_6 : decode cX6_noteOut 6 = .ok (.istore_n 3, 1) := by decide +kernel
theorem dX6_noteOut_7 : decode cX6_noteOut 7 = .ok (.iconst 0, 1) := by decide +kernel
theorem dX6_noteOut_8 : decode cX6_noteOut 8 = .ok (.istore 4, 2) := by decide +kernel
theorem dX6_noteOut_10 : decode cX6_noteOut 10 = .ok (.iconst 0, 1) := by decide +kernel
theorem dX6_noteOut_11 : decode cX6_noteOut 11 = .ok (.istore 5, 2) := by decide +kernel
theorem dX6_noteOut_13 : decode cX6_noteOut 13 = .ok (.iload 5, 2) := by decide +kernel
theorem dX6_noteOut_15 : decode cX6_noteOut 15 = .ok (.bipush 20, 2) := by decide +kernel
theorem dX6_noteOut_17 : decode cX6_noteOut 17 = .ok (.if_icmp .ge 54, 3) := by decide +kernel
theorem dX6_noteOut_20 : decode cX6_noteOut 20 = .ok (.iload_n 3, 1) := by decide +kernel
theorem dX6_noteOut_21 : decode cX6_noteOut 21 = .ok (.iload 5, 2) := by decide +kernel
theorem dX6_noteOut_23 : decode cX6_noteOut 23 = .ok (.invokestatic 122, 3) := by decide +kernel
theorem dX6_noteOut_26 : decode cX6_noteOut 26 = .ok (.ifCond .eq 39, 3) := by decide +kernel
theorem dX6_noteOut_29 : decode cX6_noteOut 29 = .ok (.aload_n 1, 1) := by decide +kernel
theorem dX6_noteOut_30 : decode cX6_noteOut 30 = .ok (.bipush 114, 2) := by decide +kernel
theorem dX6_noteOut_32 : decode cX6_noteOut 32 = .ok (.bipush 20, 2) := by decide +kernel
theorem dX6_noteOut_34 : decode cX6_noteOut 34 = .ok (.iload_n 2, 1) := by decide +kernel
theorem dX6_noteOut_35 : decode cX6_noteOut 35 = .ok (.imul, 1) := by decide +kernel
theorem dX6_noteOut_36 : decode cX6_noteOut 36 = .ok (.iadd, 1) := by decide +kernel
theorem dX6_noteOut_37 : decode cX6_noteOut 37 = .ok (.iload 5, 2) := by decide +kernel
theorem dX6_noteOut_39 : decode cX6_noteOut 39 = .ok (.iadd, 1) := by decide +kernel
theorem dX6_noteOut_40 : decode cX6_noteOut 40 = .ok (.iaload, 1) := by decide +kernel
theorem dX6_noteOut_41 : decode cX6_noteOut 41 = .ok (.bipush (-9), 2) := by decide +kernel
theorem dX6_noteOut_43 : decode cX6_noteOut 43 = .ok (.if_icmp .ne 22, 3) := by decide +kernel
theorem dX6_noteOut_46 : decode cX6_noteOut 46 = .ok (.aload_n 1, 1) := by decide +kernel
theorem dX6_noteOut_47 : decode cX6_noteOut 47 = .ok (.bipush 114, 2) := by decide +kernel
theorem dX6_noteOut_49 : decode cX6_noteOut 49 = .ok (.bipush 20, 2) := by decide +kernel
theorem dX6_noteOut_51 : decode cX6_noteOut 51 = .ok (.iload_n 2, 1) := by decide +kernel
theorem dX6_noteOut_52 : decode cX6_noteOut 52 = .ok (.imul, 1) := by decide +kernel
theorem dX6_noteOut_53 : decode cX6_noteOut 53 = .ok (.iadd, 1) := by decide +kernel
theorem dX6_noteOut_54 : decode cX6_noteOut 54 = .ok (.iload 5, 2) := by decide +kernel
theorem dX6_noteOut_56 : decode cX6_noteOut 56 = .ok (.iadd, 1) := by decide +kernel
theorem dX6_noteOut_57 : decode cX6_noteOut 57 = .ok (.aload_n 1, 1) := by decide +kernel
theorem dX6_noteOut_58 : decode cX6_noteOut 58 = .ok (.bipush 82, 2) := by decide +kernel
theorem dX6_noteOut_60 : decode cX6_noteOut 60 = .ok (.iaload, 1) := by decide +kernel
theorem dX6_noteOut_61 : decode cX6_noteOut 61 = .ok (.iastore, 1) := by decide +kernel
theorem dX6_noteOut_62 : decode cX6_noteOut 62 = .ok (.iinc 4 1, 3) := by decide +kernel
theorem dX6_noteOut_65 : decode cX6_noteOut 65 = .ok (.iinc 5 1, 3) := by decide +kernel
theorem dX6_noteOut_68 : decode cX6_noteOut 68 = .ok (.goto (-55), 3) := by decide +kernel
theorem dX6_noteOut_71 : decode cX6_noteOut 71 = .ok (.aload_n 0, 1) := by decide +kernel
theorem dX6_noteOut_72 : decode cX6_noteOut 72 = .ok (.aload_n 1, 1) := by decide +kernel
theorem dX6_noteOut_73 : decode cX6_noteOut 73 = .ok (.iload_n 2, 1) := by decide +kernel
theorem dX6_noteOut_74 : decode cX6_noteOut 74 = .ok (.invokevirtual 157, 3) := by decide +kernel
theorem dX6_noteOut_77 : decode cX6_noteOut 77 = .ok (.istore 5, 2) := by decide +kernel
theorem dX6_noteOut_79 : decode cX6_noteOut 79 = .ok (.aload_n 1, 1) := by decide +kernel
theorem dX6_noteOut_80 : decode cX6_noteOut 80 = .ok (.bipush 109, 2) := by decide +kernel
theorem dX6_noteOut_82 : decode cX6_noteOut 82 = .ok (.iload_n 2, 1) := by decide +kernel
theorem dX6_noteOut_83 : decode cX6_noteOut 83 = .ok (.iadd, 1) := by decide +kernel
theorem dX6_noteOut_84 : decode cX6_noteOut 84 = .ok (.iload 5, 2) := by decide +kernel
theorem dX6_noteOut_86 : decode cX6_noteOut 86 = .ok (.aload_n 1, 1) := by decide +kernel
theorem dX6_noteOut_87 : decode cX6_noteOut 87 = .ok (.bipush 109, 2) := by decide +kernel
theorem dX6_noteOut_89 : decode cX6_noteOut 89 = .ok (.iload_n 2, 1) := by decide +kernel
theorem dX6_noteOut_90 : decode cX6_noteOut 90 = .ok (.iadd, 1) := by decide +kernel
theorem dX6_noteOut_91 : decode cX6_noteOut 91 = .ok (.iaload, 1) := by decide +kernel
theorem dX6_noteOut_92 : decode cX6_noteOut 92 = .ok (.if_icmp .le 8, 3) := by decide +kernel
theorem dX6_noteOut_95 : decode cX6_noteOut 95 = .ok (.iload 5, 2) := by decide +kernel
theorem dX6_noteOut_97 : decode cX6_noteOut 97 = .ok (.goto 9, 3) := by decide +kernel
theorem dX6_noteOut_100 : decode cX6_noteOut 100 = .ok (.aload_n 1, 1) := by decide +kernel
theorem dX6_noteOut_101 : decode cX6_noteOut 101 = .ok (.bipush 109, 2) := by decide +kernel
theorem dX6_noteOut_103 : decode cX6_noteOut 103 = .ok (.iload_n 2, 1) := by decide +kernel
theorem dX6_noteOut_104 : decode cX6_noteOut 104 = .ok (.iadd, 1) := by decide +kernel
theorem dX6_noteOut_105 : decode cX6_noteOut 105 = .ok (.iaload, 1) := by decide +kernel
theorem dX6_noteOut_106 : decode cX6_noteOut 106 = .ok (.iastore, 1) := by decide +kernel
theorem dX6_noteOut_107 : decode cX6_noteOut 107 = .ok (.iload 4, 2) := by decide +kernel
theorem dX6_noteOut_109 : decode cX6_noteOut 109 = .ok (.ireturn, 1) := by decide +kernel
theorem dX6_noteAll_0 : decode cX6_noteAll 0 = .ok (.aload_n 1, 1) := by decide +kernel
theorem dX6_noteAll_1 : decode cX6_noteAll 1 = .ok (.bipush 82, 2) := by decide +kernel
theorem dX6_noteAll_3 : decode cX6_noteAll 3 = .ok (.dup2, 1) := by decide +kernel
theorem dX6_noteAll_4 : decode cX6_noteAll 4 = .ok (.iaload, 1) := by decide +kernel
theorem dX6_noteAll_5 : decode cX6_noteAll 5 = .ok (.iconst 1, 1) := by decide +kernel
theorem dX6_noteAll_6 : decode cX6_noteAll 6 = .ok (.iadd, 1) := by decide +kernel
theorem dX6_noteAll_7 : decode cX6_noteAll 7 = .ok (.iastore, 1) := by decide +kernel
theorem dX6_noteAll_8 : decode cX6_noteAll 8 = .ok (.iconst 0, 1) := by decide +kernel
theorem dX6_noteAll_9 : decode cX6_noteAll 9 = .ok (.istore_n 2, 1) := by decide +kernel
theorem dX6_noteAll_10 : decode cX6_noteAll 10 = .ok (.iconst 0, 1) := by decide +kernel
theorem dX6_noteAll_11 : decode cX6_noteAll 11 = .ok (.istore_n 3, 1) := by decide +kernel
theorem dX6_noteAll_12 : decode cX6_noteAll 12 = .ok (.iload_n 3, 1) := by decide +kernel
theorem dX6_noteAll_13 : decode cX6_noteAll 13 = .ok (.aload_n 1, 1) := by decide +kernel
theorem dX6_noteAll_14 : decode cX6_noteAll 14 = .ok (.bipush 83, 2) := by decide +kernel
theorem dX6_noteAll_16 : decode cX6_noteAll 16 = .ok (.iaload, 1) := by decide +kernel
theorem dX6_noteAll_17 : decode cX6_noteAll 17 = .ok (.if_icmp .ge 18, 3) := by decide +kernel
theorem dX6_noteAll_20 : decode cX6_noteAll 20 = .ok (.iload_n 2, 1) := by decide +kernel
theorem dX6_noteAll_21 : decode cX6_noteAll 21 = .ok (.aload_n 0, 1) := by decide +kernel
theorem dX6_noteAll_22 : decode cX6_noteAll 22 = .ok (.aload_n 1, 1) := by decide +kernel
theorem dX6_noteAll_23 : decode cX6_noteAll 23 = .ok (.iload_n 3, 1) := by decide +kernel
theorem dX6_noteAll_24 : decode cX6_noteAll 24 = .ok (.invokevirtual 160, 3) := by decide +kernel
theorem dX6_noteAll_27 : decode cX6_noteAll 27 = .ok (.iadd, 1) := by decide +kernel
theorem dX6_noteAll_28 : decode cX6_noteAll 28 = .ok (.istore_n 2, 1) := by decide +kernel
theorem dX6_noteAll_29 : decode cX6_noteAll 29 = .ok (.iinc 3 1, 3) := by decide +kernel
theorem dX6_noteAll_32 : decode cX6_noteAll 32 = .ok (.goto (-20), 3) := by decide +kernel
theorem dX6_noteAll_35 : decode cX6_noteAll 35 = .ok (.iload_n 2, 1) := by decide +kernel
theorem dX6_noteAll_36 : decode cX6_noteAll 36 = .ok (.ireturn, 1) := by decide +kernel
theorem dX6_depthOf_0 : decode cX6_depthOf 0 = .ok (.iconst 0, 1) := by decide +kernel
theorem dX6_depthOf_1 : decode cX6_depthOf 1 = .ok (.istore_n 2, 1) := by decide +kernel
theorem dX6_depthOf_2 : decode cX6_depthOf 2 = .ok (.iload_n 1, 1) := by decide +kernel
theorem dX6_depthOf_3 : decode cX6_depthOf 3 = .ok (.istore_n 3, 1) := by decide +kernel
theorem dX6_depthOf_4 : decode cX6_depthOf 4 = .ok (.iload_n 3, 1) := by decide +kernel
theorem dX6_depthOf_5 : decode cX6_depthOf 5 = .ok (.bipush (-9), 2) := by decide +kernel
theorem dX6_depthOf_7 : decode cX6_depthOf 7 = .ok (.if_icmp .eq 16, 3) := by decide +kernel
theorem dX6_depthOf_10 : decode cX6_depthOf 10 = .ok (.iinc 2 1, 3) := by decide +kernel
theorem dX6_depthOf_13 : decode cX6_depthOf 13 = .ok (.aload_n 0, 1) := by decide +kernel
theorem dX6_depthOf_14 : decode cX6_depthOf 14 = .ok (.bipush 20, 2) := by decide +kernel
theorem dX6_depthOf_16 : decode cX6_depthOf 16 = .ok (.iload_n 3, 1) := by decide +kernel
theorem dX6_depthOf_17 : decode cX6_depthOf 17 = .ok (.iadd, 1) := by decide +kernel
theorem dX6_depthOf_18 : decode cX6_depthOf 18 = .ok (.iaload, 1) := by decide +kernel
theorem dX6_depthOf_19 : decode cX6_depthOf 19 = .ok (.istore_n 3, 1) := by decide +kernel
theorem dX6_depthOf_20 : decode cX6_depthOf 20 = .ok (.goto (-16), 3) := by decide +kernel
theorem dX6_depthOf_23 : decode cX6_depthOf 23 = .ok (.iload_n 2, 1) := by decide +kernel
theorem dX6_depthOf_24 : decode cX6_depthOf 24 = .ok (.ireturn, 1) := by decide +kernel
theorem dX6_mayOpen_0 : decode cX6_mayOpen 0 = .ok (.aload_n 0, 1) := by decide +kernel
theorem dX6_mayOpen_1 : decode cX6_mayOpen 1 = .ok (.bipush 80, 2) := by decide +kernel
theorem dX6_mayOpen_3 : decode cX6_mayOpen 3 = .ok (.iaload, 1) := by decide +kernel
theorem dX6_mayOpen_4 : decode cX6_mayOpen 4 = .ok (.ifCond .eq 25, 3) := by decide +kernel
theorem dX6_mayOpen_7 : decode cX6_mayOpen 7 = .ok (.aload_n 0, 1) := by decide +kernel
theorem dX6_mayOpen_8 : decode cX6_mayOpen 8 = .ok (.bipush 81, 2) := by decide +kernel
theorem dX6_mayOpen_10 : decode cX6_mayOpen 10 = .ok (.iaload, 1) := by decide +kernel
theorem dX6_mayOpen_11 : decode cX6_mayOpen 11 = .ok (.bipush (-9), 2) := by decide +kernel
theorem dX6_mayOpen_13 : decode cX6_mayOpen 13 = .ok (.if_icmp .eq 20, 3) := by decide +kernel
theorem dX6_mayOpen_16 : decode cX6_mayOpen 16 = .ok (.aload_n 0, 1) := by decide +kernel
theorem dX6_mayOpen_17 : decode cX6_mayOpen 17 = .ok (.aload_n 0, 1) := by decide +kernel
theorem dX6_mayOpen_18 : decode cX6_mayOpen 18 = .ok (.bipush 81, 2) := by decide +kernel
theorem dX6_mayOpen_20 : decode cX6_mayOpen 20 = .ok (.iaload, 1) := by decide +kernel
theorem dX6_mayOpen_21 : decode cX6_mayOpen 21 = .ok (.invokestatic 163, 3) := by decide +kernel
theorem dX6_mayOpen_24 : decode cX6_mayOpen 24 = .ok (.bipush 8, 2) := by decide +kernel
theorem dX6_mayOpen_26 : decode cX6_mayOpen 26 = .ok (.if_icmp .ge 7, 3) := by decide +kernel
theorem dX6_mayOpen_29 : decode cX6_mayOpen 29 = .ok (.iconst 1, 1) := by decide +kernel
theorem dX6_mayOpen_30 : decode cX6_mayOpen 30 = .ok (.goto 4, 3) := by decide +kernel
theorem dX6_mayOpen_33 : decode cX6_mayOpen 33 = .ok (.iconst 0, 1) := by decide +kernel
theorem dX6_mayOpen_34 : decode cX6_mayOpen 34 = .ok (.ireturn, 1) := by decide +kernel
theorem dX6_openOn_0 : decode cX6_openOn 0 = .ok (.aload_n 1, 1) := by decide +kernel
theorem dX6_openOn_1 : decode cX6_openOn 1 = .ok (.bipush 80, 2) := by decide +kernel
theorem dX6_openOn_3 : decode cX6_openOn 3 = .ok (.iaload, 1) := by decide +kernel
theorem dX6_openOn_4 : decode cX6_openOn 4 = .ok (.istore_n 3, 1) := by decide +kernel
theorem dX6_openOn_5 : decode cX6_openOn 5 = .ok (.aload_n 1, 1) := by decide +kernel
theorem dX6_openOn_6 : decode cX6_openOn 6 = .ok (.iload_n 3, 1) := by decide +kernel
theorem dX6_openOn_7 : decode cX6_openOn 7 = .ok (.iload_n 2, 1) := by decide +kernel
theorem dX6_openOn_8 : decode cX6_openOn 8 = .ok (.iastore, 1) := by decide +kernel
theorem dX6_openOn_9 : decode cX6_openOn 9 = .ok (.aload_n 1, 1) := by decide +kernel
theorem dX6_openOn_10 : decode cX6_openOn 10 = .ok (.bipush 20, 2) := by decide +kernel
theorem dX6_openOn_12 : decode cX6_openOn 12 = .ok (.iload_n 3, 1) := by decide +kernel
theorem dX6_openOn_13 : decode cX6_openOn 13 = .ok (.iadd, 1) := by decide +kernel
theorem dX6_openOn_14 : decode cX6_openOn 14 = .ok (.aload_n 1, 1) := by decide +kernel
theorem dX6_openOn_15 : decode cX6_openOn 15 = .ok (.bipush 81, 2) := by decide +kernel
theorem dX6_openOn_17 : decode cX6_openOn 17 = .ok (.iaload, 1) := by decide +kernel
theorem dX6_openOn_18 : decode cX6_openOn 18 = .ok (.iastore, 1) := by decide +kernel
theorem dX6_openOn_19 : decode cX6_openOn 19 = .ok (.aload_n 1, 1) := by decide +kernel
theorem dX6_openOn_20 : decode cX6_openOn 20 = .ok (.bipush 40, 2) := by decide +kernel
theorem dX6_openOn_22 : decode cX6_openOn 22 = .ok (.iload_n 3, 1) := by decide +kernel
theorem dX6_openOn_23 : decode cX6_openOn 23 = .ok (.iadd, 1) := by decide +kernel
theorem dX6_openOn_24 : decode cX6_openOn 24 = .ok (.iconst 1, 1) := by decide +kernel
theorem dX6_openOn_25 : decode cX6_openOn 25 = .ok (.iastore, 1) := by decide +kernel
theorem dX6_openOn_26 : decode cX6_openOn 26 = .ok (.aload_n 1, 1) := by decide +kernel
theorem dX6_openOn_27 : decode cX6_openOn 27 = .ok (.bipush 60, 2) := by decide +kernel
theorem dX6_openOn_29 : decode cX6_openOn 29 = .ok (.iload_n 3, 1) := by decide +kernel
theorem dX6_openOn_30 : decode cX6_openOn 30 = .ok (.iadd, 1) := by decide +kernel
theorem dX6_openOn_31 : decode cX6_openOn 31 = .ok (.iconst 0, 1) := by decide +kernel
theorem dX6_openOn_32 : decode cX6_openOn 32 = .ok (.iastore, 1) := by decide +kernel
theorem dX6_openOn_33 : decode cX6_openOn 33 = .ok (.aload_n 1, 1) := by decide +kernel
theorem dX6_openOn_34 : decode cX6_openOn 34 = .ok (.bipush 81, 2) := by decide +kernel
theorem dX6_openOn_36 : decode cX6_openOn 36 = .ok (.iload_n 3, 1) := by decide +kernel
theorem dX6_openOn_37 : decode cX6_openOn 37 = .ok (.iastore, 1) := by decide +kernel
theorem dX6_openOn_38 : decode cX6_openOn 38 = .ok (.aload_n 1, 1) := by decide +kernel
theorem dX6_openOn_39 : decode cX6_openOn 39 = .ok (.bipush 80, 2) := by decide +kernel
theorem dX6_openOn_41 : decode cX6_openOn 41 = .ok (.dup2, 1) := by decide +kernel
theorem dX6_openOn_42 : decode cX6_openOn 42 = .ok (.iaload, 1) := by decide +kernel
theorem dX6_openOn_43 : decode cX6_openOn 43 = .ok (.iconst 1, 1) := by decide +kernel
theorem dX6_openOn_44 : decode cX6_openOn 44 = .ok (.iadd, 1) := by decide +kernel
theorem dX6_openOn_45 : decode cX6_openOn 45 = .ok (.iastore, 1) := by decide +kernel
theorem dX6_openOn_46 : decode cX6_openOn 46 = .ok (.aload_n 0, 1) := by decide +kernel
theorem dX6_openOn_47 : decode cX6_openOn 47 = .ok (.aload_n 1, 1) := by decide +kernel
theorem dX6_openOn_48 : decode cX6_openOn 48 = .ok (.invokevirtual 166, 3) := by decide +kernel
theorem dX6_openOn_51 : decode cX6_openOn 51 = .ok (.istore 4, 2) := by decide +kernel
theorem dX6_openOn_53 : decode cX6_openOn 53 = .ok (.return_, 1) := by decide +kernel
theorem dX6_closeOn_0 : decode cX6_closeOn 0 = .ok (.aload_n 1, 1) := by decide +kernel
theorem dX6_closeOn_1 : decode cX6_closeOn 1 = .ok (.bipush 81, 2) := by decide +kernel
theorem dX6_closeOn_3 : decode cX6_closeOn 3 = .ok (.iaload, 1) := by decide +kernel
theorem dX6_closeOn_4 : decode cX6_closeOn 4 = .ok (.istore_n 2, 1) := by decide +kernel
theorem dX6_closeOn_5 : decode cX6_closeOn 5 = .ok (.aload_n 1, 1) := by decide +kernel
theorem dX6_closeOn_6 : decode cX6_closeOn 6 = .ok (.bipush 40, 2) := by decide +kernel
theorem dX6_closeOn_8 : decode cX6_closeOn 8 = .ok (.iload_n 2, 1) := by decide +kernel
theorem dX6_closeOn_9 : decode cX6_closeOn 9 = .ok (.iadd, 1) := by decide +kernel
theorem dX6_closeOn_10 : decode cX6_closeOn 10 = .ok (.iconst 0, 1) := by decide +kernel
theorem dX6_closeOn_11 : decode cX6_closeOn 11 = .ok (.iastore, 1) := by decide +kernel
theorem dX6_closeOn_12 : decode cX6_closeOn 12 = .ok (.aload_n 1, 1) := by decide +kernel
theorem dX6_closeOn_13 : decode cX6_closeOn 13 = .ok (.bipush 81, 2) := by decide +kernel
theorem dX6_closeOn_15 : decode cX6_closeOn 15 = .ok (.aload_n 1, 1) := by decide +kernel
theorem dX6_closeOn_16 : decode cX6_closeOn 16 = .ok (.bipush 20, 2) := by decide +kernel
theorem dX6_closeOn_18 : decode cX6_closeOn 18 = .ok (.iload_n 2, 1) := by decide +kernel
theorem dX6_closeOn_19 : decode cX6_closeOn 19 = .ok (.iadd, 1) := by decide +kernel
theorem dX6_closeOn_20 : decode cX6_closeOn 20 = .ok (.iaload, 1) := by decide +kernel
theorem dX6_closeOn_21 : decode cX6_closeOn 21 = .ok (.iastore, 1) := by decide +kernel
theorem dX6_closeOn_22 : decode cX6_closeOn 22 = .ok (.aload_n 0, 1) := by decide +kernel
theorem dX6_closeOn_23 : decode cX6_closeOn 23 = .ok (.aload_n 1, 1) := by decide +kernel
theorem dX6_closeOn_24 : decode cX6_closeOn 24 = .ok (.invokevirtual 166, 3) := by decide +kernel
theorem dX6_closeOn_27 : decode cX6_closeOn 27 = .ok (.ireturn, 1) := by decide +kernel
theorem dX6_tellOn_0 : decode cX6_tellOn 0 = .ok (.aload_n 1, 1) := by decide +kernel
theorem dX6_tellOn_1 : decode cX6_tellOn 1 = .ok (.bipush 60, 2) := by decide +kernel
theorem dX6_tellOn_3 : decode cX6_tellOn 3 = .ok (.aload_n 1, 1) := by decide +kernel
theorem dX6_tellOn_4 : decode cX6_tellOn 4 = .ok (.bipush 81, 2) := by decide +kernel
theorem dX6_tellOn_6 : decode cX6_tellOn 6 = .ok (.iaload, 1) := by decide +kernel
theorem dX6_tellOn_7 : decode cX6_tellOn 7 = .ok (.iadd, 1) := by decide +kernel
theorem dX6_tellOn_8 : decode cX6_tellOn 8 = .ok (.dup2, 1) := by decide +kernel
theorem dX6_tellOn_9 : decode cX6_tellOn 9 = .ok (.iaload, 1) := by decide +kernel
theorem dX6_tellOn_10 : decode cX6_tellOn 10 = .ok (.iconst 1, 1) := by decide +kernel
theorem dX6_tellOn_11 : decode cX6_tellOn 11 = .ok (.iload_n 2, 1) := by decide +kernel
theorem dX6_tellOn_12 : decode cX6_tellOn 12 = .ok (.ishl, 1) := by decide +kernel
theorem dX6_tellOn_13 : decode cX6_tellOn 13 = .ok (.ior, 1) := by decide +kernel
theorem dX6_tellOn_14 : decode cX6_tellOn 14 = .ok (.iastore, 1) := by decide +kernel
theorem dX6_tellOn_15 : decode cX6_tellOn 15 = .ok (.aload_n 0, 1) := by decide +kernel
theorem dX6_tellOn_16 : decode cX6_tellOn 16 = .ok (.aload_n 1, 1) := by decide +kernel
theorem dX6_tellOn_17 : decode cX6_tellOn 17 = .ok (.invokevirtual 166, 3) := by decide +kernel
theorem dX6_tellOn_20 : decode cX6_tellOn 20 = .ok (.ireturn, 1) := by decide +kernel
theorem dX6_eventOn_0 : decode cX6_eventOn 0 = .ok (.iload_n 2, 1) := by decide +kernel
theorem dX6_eventOn_1 : decode cX6_eventOn 1 = .ok (.bipush 10, 2) := by decide +kernel
theorem dX6_eventOn_3 : decode cX6_eventOn 3 = .ok (.if_icmp .ge 37, 3) := by decide +kernel
theorem dX6_eventOn_6 : decode cX6_eventOn 6 = .ok (.aload_n 1, 1) := by decide +kernel
theorem dX6_eventOn_7 : decode cX6_eventOn 7 = .ok (.invokestatic 170, 3) := by decide +kernel
theorem dX6_eventOn_10 : decode cX6_eventOn 10 = .ok (.ifCond .eq 16, 3) := by decide +kernel
theorem dX6_eventOn_13 : decode cX6_eventOn 13 = .ok (.aload_n 1, 1) := by decide +kernel
theorem dX6_eventOn_14 : decode cX6_eventOn 14 = .ok (.bipush 80, 2) := by decide +kernel
theorem dX6_eventOn_16 : decode cX6_eventOn 16 = .ok (.iaload, 1) := by decide +kernel
theorem dX6_eventOn_17 : decode cX6_eventOn 17 = .ok (.bipush 20, 2) := by decide +kernel
theorem dX6_eventOn_19 : decode cX6_eventOn 19 = .ok (.if_icmp .ge 7, 3) := by decide +kernel
theorem dX6_eventOn_22 : decode cX6_eventOn 22 = .ok (.iconst 1, 1) := by decide +kernel
theorem dX6_eventOn_23 : decode cX6_eventOn 23 = .ok (.goto 4, 3) := by decide +kernel
theorem dX6_eventOn_26 : decode cX6_eventOn 26 = .ok (.iconst 0, 1) := by decide +kernel
theorem dX6_eventOn_27 : decode cX6_eventOn 27 = .ok (.istore_n 3, 1) := by decide +kernel
theorem dX6_eventOn_28 : decode cX6_eventOn 28 = .ok (.iload_n 3, 1) := by decide +kernel
theorem dX6_eventOn_29 : decode cX6_eventOn 29 = .ok (.ifCond .eq 9, 3) := by decide +kernel
theorem dX6_eventOn_32 : decode cX6_eventOn 32 = .ok (.aload_n 0, 1) := by decide +kernel
theorem dX6_eventOn_33 : decode cX6_eventOn 33 = .ok (.aload_n 1, 1) := by decide +kernel
theorem dX6_eventOn_34 : decode cX6_eventOn 34 = .ok (.iload_n 2, 1) := by decide +kernel
theorem dX6_eventOn_35 : decode cX6_eventOn 35 = .ok (.invokevirtual 174, 3) := by decide +kernel
theorem dX6_eventOn_38 : decode cX6_eventOn 38 = .ok (.iload_n 3, 1) := by decide +kernel
theorem dX6_eventOn_39 : decode cX6_eventOn 39 = .ok (.ireturn, 1) := by decide +kernel
theorem dX6_eventOn_40 : decode cX6_eventOn 40 = .ok (.aload_n 1, 1) := by decide +kernel
theorem dX6_eventOn_41 : decode cX6_eventOn 41 = .ok (.bipush 81, 2) := by decide +kernel
theorem dX6_eventOn_43 : decode cX6_eventOn 43 = .ok (.iaload, 1) := by decide +kernel
theorem dX6_eventOn_44 : decode cX6_eventOn 44 = .ok (.bipush (-9), 2) := by decide +kernel
theorem dX6_eventOn_46 : decode cX6_eventOn 46 = .ok (.if_icmp .ne 5, 3) := by decide +kernel
theorem dX6_eventOn_49 : decode cX6_eventOn 49 = .ok (.iconst 0, 1) := by decide +kernel
theorem dX6_eventOn_50 : decode cX6_eventOn 50 = .ok (.ireturn, 1) := by decide +kernel
theorem dX6_eventOn_51 : decode cX6_eventOn 51 = .ok (.iload_n 2, 1) := by decide +kernel
theorem dX6_eventOn_52 : decode cX6_eventOn 52 = .ok (.bipush 10, 2) := by decide +kernel
theorem dX6_eventOn_54 : decode cX6_eventOn 54 = .ok (.if_icmp .ne 11, 3) := by decide +kernel
theorem dX6_eventOn_57 : decode cX6_eventOn 57 = .ok (.aload_n 0, 1) := by decide +kernel
theorem dX6_eventOn_58 : decode cX6_eventOn 58 = .ok (.aload_n 1, 1) := by decide +kernel
theorem dX6_eventOn_59 : decode cX6_eventOn 59 = .ok (.invokevirtual 178, 3) := by decide +kernel
theorem dX6_eventOn_62 : decode cX6_eventOn 62 = .ok (.goto 12, 3) := by decide +kernel
theorem dX6_eventOn_65 : decode cX6_eventOn 65 = .ok (.aload_n 0, 1) := by decide +kernel
theorem dX6_eventOn_66 : decode cX6_eventOn 66 = .ok (.aload_n 1, 1) := by decide +kernel
theorem dX6_eventOn_67 : decode cX6_eventOn 67 = .ok (.iload_n 2, 1) := by decide +kernel
theorem dX6_eventOn_68 : decode cX6_eventOn 68 = .ok (.bipush 20, 2) := by decide +kernel
theorem dX6_eventOn_70 : decode cX6_eventOn 70 = .ok (.isub, 1) := by decide +kernel
theorem dX6_eventOn_71 : decode cX6_eventOn 71 = .ok (.invokevirtual 181, 3) := by decide +kernel
theorem dX6_eventOn_74 : decode cX6_eventOn 74 = .ok (.istore_n 3, 1) := by decide +kernel
theorem dX6_eventOn_75 : decode cX6_eventOn 75 = .ok (.iconst 1, 1) := by decide +kernel
theorem dX6_eventOn_76 : decode cX6_eventOn 76 = .ok (.ireturn, 1) := by decide +kernel
theorem dX6_askOn_0 : decode cX6_askOn 0 = .ok (.aload_n 1, 1) := by decide +kernel
theorem dX6_askOn_1 : decode cX6_askOn 1 = .ok (.bipush 83, 2) := by decide +kernel
theorem dX6_askOn_3 : decode cX6_askOn 3 = .ok (.iaload, 1) := by decide +kernel
theorem dX6_askOn_4 : decode cX6_askOn 4 = .ok (.istore 7, 2) := by decide +kernel
theorem dX6_askOn_6 : decode cX6_askOn 6 = .ok (.aload_n 1, 1) := by decide +kernel
theorem dX6_askOn_7 : decode cX6_askOn 7 = .ok (.bipush 84, 2) := by decide +kernel
theorem dX6_askOn_9 : decode cX6_askOn 9 = .ok (.iload 7, 2) := by decide +kernel
theorem dX6_askOn_11 : decode cX6_askOn 11 = .ok (.iadd, 1) := by decide +kernel
theorem dX6_askOn_12 : decode cX6_askOn 12 = .ok (.iload_n 2, 1) := by decide +kernel
theorem dX6_askOn_13 : decode cX6_askOn 13 = .ok (.iastore, 1) := by decide +kernel
theorem dX6_askOn_14 : decode cX6_askOn 14 = .ok (.aload_n 1, 1) := by decide +kernel
theorem dX6_askOn_15 : decode cX6_askOn 15 = .ok (.bipush 89, 2) := by decide +kernel
theorem dX6_askOn_17 : decode cX6_askOn 17 = .ok (.iconst 4, 1) := by decide +kernel
theorem dX6_askOn_18 : decode cX6_askOn 18 = .ok (.iload 7, 2) := by decide +kernel
theorem dX6_askOn_20 : decode cX6_askOn 20 = .ok (.imul, 1) := by decide +kernel
theorem dX6_askOn_21 : decode cX6_askOn 21 = .ok (.iadd, 1) := by decide +kernel
theorem dX6_askOn_22 : decode cX6_askOn 22 = .ok (.iload_n 3, 1) := by decide +kernel
theorem dX6_askOn_23 : decode cX6_askOn 23 = .ok (.iastore, 1) := by decide +kernel
theorem dX6_askOn_24 : decode cX6_askOn 24 = .ok (.aload_n 1, 1) := by decide +kernel
theorem dX6_askOn_25 : decode cX6_askOn 25 = .ok (.bipush 89, 2) := by decide +kernel
theorem dX6_askOn_27 : decode cX6_askOn 27 = .ok (.iconst 4, 1) := by decide +kernel
theorem dX6_askOn_28 : decode cX6_askOn 28 = .ok (.iload 7, 2) := by decide +kernel
theorem dX6_askOn_30 : decode cX6_askOn 30 = .ok (.imul, 1) := by decide +kernel
theorem dX6_askOn_31 : decode cX6_askOn 31 = .ok (.iadd, 1) := by decide +kernel
theorem dX6_askOn_32 : decode cX6_askOn 32 = .ok (.iconst 1, 1) := by decide +kernel
theorem dX6_askOn_33 : decode cX6_askOn 33 = .ok (.iadd, 1) := by decide +kernel
theorem dX6_askOn_34 : decode cX6_askOn 34 = .ok (.iload 4, 2) := by decide +kernel
theorem dX6_askOn_36 : decode cX6_askOn 36 = .ok (.iastore, 1) := by decide +kernel
theorem dX6_askOn_37 : decode cX6_askOn 37 = .ok (.aload_n 1, 1) := by decide +kernel
theorem dX6_askOn_38 : decode cX6_askOn 38 = .ok (.bipush 89, 2) := by decide +kernel
theorem dX6_askOn_40 : decode cX6_askOn 40 = .ok (.iconst 4, 1) := by decide +kernel
theorem dX6_askOn_41 : decode cX6_askOn 41 = .ok (.iload 7, 2) := by decide +kernel
theorem dX6_askOn_43 : decode cX6_askOn 43 = .ok (.imul, 1) := by decide +kernel
theorem dX6_askOn_44 : decode cX6_askOn 44 = .ok (.iadd, 1) := by decide +kernel
theorem dX6_askOn_45 : decode cX6_askOn 45 = .ok (.iconst 2, 1) := by decide +kernel
theorem dX6_askOn_46 : decode cX6_askOn 46 = .ok (.iadd, 1) := by decide +kernel
theorem dX6_askOn_47 : decode cX6_askOn 47 = .ok (.iload 5, 2) := by decide +kernel
theorem dX6_askOn_49 : decode cX6_askOn 49 = .ok (.iastore, 1) := by decide +kernel
theorem dX6_askOn_50 : decode cX6_askOn 50 = .ok (.aload_n 1, 1) := by decide +kernel
theorem dX6_askOn_51 : decode cX6_askOn 51 = .ok (.bipush 89, 2) := by decide +kernel
theorem dX6_askOn_53 : decode cX6_askOn 53 = .ok (.iconst 4, 1) := by decide +kernel
theorem dX6_askOn_54 : decode cX6_askOn 54 = .ok (.iload 7, 2) := by decide +kernel
theorem dX6_askOn_56 : decode cX6_askOn 56 = .ok (.imul, 1) := by decide +kernel
theorem dX6_askOn_57 : decode cX6_askOn 57 = .ok (.iadd, 1) := by decide +kernel
theorem dX6_askOn_58 : decode cX6_askOn 58 = .ok (.iconst 3, 1) := by decide +kernel
theorem dX6_askOn_59 : decode cX6_askOn 59 = .ok (.iadd, 1) := by decide +kernel
theorem dX6_askOn_60 : decode cX6_askOn 60 = .ok (.iload 6, 2) := by decide +kernel
theorem dX6_askOn_62 : decode cX6_askOn 62 = .ok (.iastore, 1) := by decide +kernel
theorem dX6_askOn_63 : decode cX6_askOn 63 = .ok (.aload_n 1, 1) := by decide +kernel
theorem dX6_askOn_64 : decode cX6_askOn 64 = .ok (.bipush 109, 2) := by decide +kernel
theorem dX6_askOn_66 : decode cX6_askOn 66 = .ok (.iload 7, 2) := by decide +kernel
theorem dX6_askOn_68 : decode cX6_askOn 68 = .ok (.iadd, 1) := by decide +kernel
theorem dX6_askOn_69 : decode cX6_askOn 69 = .ok (.iconst 0, 1) := by decide +kernel
theorem dX6_askOn_70 : decode cX6_askOn 70 = .ok (.iastore, 1) := by decide +kernel
theorem dX6_askOn_71 : decode cX6_askOn 71 = .ok (.iconst 0, 1) := by decide +kernel
theorem dX6_askOn_72 : decode cX6_askOn 72 = .ok (.istore 8, 2) := by decide +kernel
theorem dX6_askOn_74 : decode cX6_askOn 74 = .ok (.iload 8, 2) := by decide +kernel
theorem dX6_askOn_76 : decode cX6_askOn 76 = .ok (.bipush 20, 2) := by decide +kernel
theorem dX6_askOn_78 : decode cX6_askOn 78 = .ok (.if_icmp .ge 24, 3) := by decide +kernel
theorem dX6_askOn_81 : decode cX6_askOn 81 = .ok (.aload_n 1, 1) := by decide +kernel
theorem dX6_askOn_82 : decode cX6_askOn 82 = .ok (.bipush 114, 2) := by decide +kernel
theorem dX6_askOn_84 : decode cX6_askOn 84 = .ok (.bipush 20, 2) := by decide +kernel
theorem dX6_askOn_86 : decode cX6_askOn 86 = .ok (.iload 7, 2) := by decide +kernel
theorem dX6_askOn_88 : decode cX6_askOn 88 = .ok (.imul, 1) := by decide +kernel
theorem dX6_askOn_89 : decode cX6_askOn 89 = .ok (.iadd, 1) := by decide +kernel
theorem dX6_askOn_90 : decode cX6_askOn 90 = .ok (.iload 8, 2) := by decide +kernel
theorem dX6_askOn_92 : decode cX6_askOn 92 = .ok (.iadd, 1) := by decide +kernel
theorem dX6_askOn_93 : decode cX6_askOn 93 = .ok (.bipush (-9), 2) := by decide +kernel
theorem dX6_askOn_95 : decode cX6_askOn 95 = .ok (.iastore, 1) := by decide +kernel
theorem dX6_askOn_96 : decode cX6_askOn 96 = .ok (.iinc 8 1, 3) := by decide +kernel
theorem dX6_askOn_99 : decode cX6_askOn 99 = .ok (.goto (-25), 3) := by decide +kernel
theorem dX6_askOn_102 : decode cX6_askOn 102 = .ok (.aload_n 1, 1) := by decide +kernel
theorem dX6_askOn_103 : decode cX6_askOn 103 = .ok (.bipush 83, 2) := by decide +kernel
theorem dX6_askOn_105 : decode cX6_askOn 105 = .ok (.dup2, 1) := by decide +kernel
theorem dX6_askOn_106 : decode cX6_askOn 106 = .ok (.iaload, 1) := by decide +kernel
theorem dX6_askOn_107 : decode cX6_askOn 107 = .ok (.iconst 1, 1) := by decide +kernel
theorem dX6_askOn_108 : decode cX6_askOn 108 = .ok (.iadd, 1) := by decide +kernel
theorem dX6_askOn_109 : decode cX6_askOn 109 = .ok (.iastore, 1) := by decide +kernel
theorem dX6_askOn_110 : decode cX6_askOn 110 = .ok (.aload_n 0, 1) := by decide +kernel
theorem dX6_askOn_111 : decode cX6_askOn 111 = .ok (.aload_n 1, 1) := by decide +kernel
theorem dX6_askOn_112 : decode cX6_askOn 112 = .ok (.iload 7, 2) := by decide +kernel
theorem dX6_askOn_114 : decode cX6_askOn 114 = .ok (.invokevirtual 160, 3) := by decide +kernel
theorem dX6_askOn_117 : decode cX6_askOn 117 = .ok (.istore 8, 2) := by decide +kernel
theorem dX6_askOn_119 : decode cX6_askOn 119 = .ok (.return_, 1) := by decide +kernel
theorem dX6_task_0 : decode cX6_task 0 = .ok (.aload_n 0, 1) := by decide +kernel
theorem dX6_task_1 : decode cX6_task 1 = .ok (.invokevirtual 114, 3) := by decide +kernel
theorem dX6_task_4 : decode cX6_task 4 = .ok (.bipush (-9), 2) := by decide +kernel
theorem dX6_task_6 : decode cX6_task 6 = .ok (.if_icmp .eq 6, 3) := by decide +kernel
theorem dX6_task_9 : decode cX6_task 9 = .ok (.bipush (-3), 2) := by decide +kernel
theorem dX6_task_11 : decode cX6_task 11 = .ok (.ireturn, 1) := by decide +kernel
theorem dX6_task_12 : decode cX6_task 12 = .ok (.aload_n 0, 1) := by decide +kernel
theorem dX6_task_13 : decode cX6_task 13 = .ok (.getfield 13, 3) := by decide +kernel
theorem dX6_task_16 : decode cX6_task 16 = .ok (.invokestatic 60, 3) := by decide +kernel
theorem dX6_task_19 : decode cX6_task 19 = .ok (.iconst 0, 1) := by decide +kernel
theorem dX6_task_20 : decode cX6_task 20 = .ok (.istore_n 1, 1) := by decide +kernel
theorem dX6_task_21 : decode cX6_task 21 = .ok (.iload_n 1, 1) := by decide +kernel
theorem dX6_task_22 : decode cX6_task 22 = .ok (.aload_n 0, 1) := by decide +kernel
theorem dX6_task_23 : decode cX6_task 23 = .ok (.getfield 89, 3) := by decide +kernel
theorem dX6_task_26 : decode cX6_task 26 = .ok (.if_icmp .ge 57, 3) := by decide +kernel
theorem dX6_task_29 : decode cX6_task 29 = .ok (.iconst 4, 1) := by decide +kernel
theorem dX6_task_30 : decode cX6_task 30 = .ok (.iload_n 1, 1) := by decide +kernel
theorem dX6_task_31 : decode cX6_task 31 = .ok (.imul, 1) := by decide +kernel
theorem dX6_task_32 : decode cX6_task 32 = .ok (.istore_n 2, 1) := by decide +kernel
theorem dX6_task_33 : decode cX6_task 33 = .ok (.aload_n 0, 1) := by decide +kernel
theorem dX6_task_34 : decode cX6_task 34 = .ok (.aload_n 0, 1) := by decide +kernel
theorem dX6_task_35 : decode cX6_task 35 = .ok (.getfield 13, 3) := by decide +kernel
theorem dX6_task_38 : decode cX6_task 38 = .ok (.aload_n 0, 1) := by decide +kernel
theorem dX6_task_39 : decode cX6_task 39 = .ok (.getfield 47, 3) := by decide +kernel
theorem dX6_task_42 : decode cX6_task 42 = .ok (.iload_n 1, 1) := by decide +kernel
theorem dX6_task_43 : decode cX6_task 43 = .ok (.iaload, 1) := by decide +kernel
theorem dX6_task_44 : decode cX6_task 44 = .ok (.aload_n 0, 1) := by decide +kernel
theorem dX6_task_45 : decode cX6_task 45 = .ok (.getfield 50, 3) := by decide +kernel
theorem dX6_task_48 : decode cX6_task 48 = .ok (.iload_n 2, 1) := by decide +kernel
theorem dX6_task_49 : decode cX6_task 49 = .ok (.iaload, 1) := by decide +kernel
theorem dX6_task_50 : decode cX6_task 50 = .ok (.aload_n 0, 1) := by decide +kernel
theorem dX6_task_51 : decode cX6_task 51 = .ok (.getfield 50, 3) := by decide +kernel
theorem dX6_task_54 : decode cX6_task 54 = .ok (.iload_n 2, 1) := by decide +kernel
theorem dX6_task_55 : decode cX6_task 55 = .ok (.iconst 1, 1) := by decide +kernel
theorem dX6_task_56 : decode cX6_task 56 = .ok (.iadd, 1) := by decide +kernel
theorem dX6_task_57 : decode cX6_task 57 = .ok (.iaload, 1) := by decide +kernel
theorem dX6_task_58 : decode cX6_task 58 = .ok (.aload_n 0, 1) := by decide +kernel
theorem dX6_task_59 : decode cX6_task 59 = .ok (.getfield 50, 3) := by decide +kernel
theorem dX6_task_62 : decode cX6_task 62 = .ok (.iload_n 2, 1) := by decide +kernel
theorem dX6_task_63 : decode cX6_task 63 = .ok (.iconst 2, 1) := by decide +kernel
theorem dX6_task_64 : decode cX6_task 64 = .ok (.iadd, 1) := by decide +kernel
theorem dX6_task_65 : decode cX6_task 65 = .ok (.iaload, 1) := by decide +kernel
theorem dX6_task_66 : decode cX6_task 66 = .ok (.aload_n 0, 1) := by decide +kernel
theorem dX6_task_67 : decode cX6_task 67 = .ok (.getfield 50, 3) := by decide +kernel
theorem dX6_task_70 : decode cX6_task 70 = .ok (.iload_n 2, 1) := by decide +kernel
theorem dX6_task_71 : decode cX6_task 71 = .ok (.iconst 3, 1) := by decide +kernel
theorem dX6_task_72 : decode cX6_task 72 = .ok (.iadd, 1) := by decide +kernel
theorem dX6_task_73 : decode cX6_task 73 = .ok (.iaload, 1) := by decide +kernel
theorem dX6_task_74 : decode cX6_task 74 = .ok (.invokevirtual 184, 3) := by decide +kernel
theorem dX6_task_77 : decode cX6_task 77 = .ok (.iinc 1 1, 3) := by decide +kernel
theorem dX6_task_80 : decode cX6_task 80 = .ok (.goto (-59), 3) := by decide +kernel
theorem dX6_task_83 : decode cX6_task 83 = .ok (.iconst 0, 1) := by decide +kernel
theorem dX6_task_84 : decode cX6_task 84 = .ok (.istore_n 1, 1) := by decide +kernel
theorem dX6_task_85 : decode cX6_task 85 = .ok (.iload_n 1, 1) := by decide +kernel
theorem dX6_task_86 : decode cX6_task 86 = .ok (.aload_n 0, 1) := by decide +kernel
theorem dX6_task_87 : decode cX6_task 87 = .ok (.getfield 77, 3) := by decide +kernel
theorem dX6_task_90 : decode cX6_task 90 = .ok (.if_icmp .ge 24, 3) := by decide +kernel
theorem dX6_task_93 : decode cX6_task 93 = .ok (.aload_n 0, 1) := by decide +kernel
theorem dX6_task_94 : decode cX6_task 94 = .ok (.aload_n 0, 1) := by decide +kernel
theorem dX6_task_95 : decode cX6_task 95 = .ok (.getfield 13, 3) := by decide +kernel
theorem dX6_task_98 : decode cX6_task 98 = .ok (.aload_n 0, 1) := by decide +kernel
theorem dX6_task_99 : decode cX6_task 99 = .ok (.getfield 53, 3) := by decide +kernel
theorem dX6_task_102 : decode cX6_task 102 = .ok (.iload_n 1, 1) := by decide +kernel
theorem dX6_task_103 : decode cX6_task 103 = .ok (.iaload, 1) := by decide +kernel
theorem dX6_task_104 : decode cX6_task 104 = .ok (.invokevirtual 188, 3) := by decide +kernel
theorem dX6_task_107 : decode cX6_task 107 = .ok (.istore_n 2, 1) := by decide +kernel
theorem dX6_task_108 : decode cX6_task 108 = .ok (.iinc 1 1, 3) := by decide +kernel
theorem dX6_task_111 : decode cX6_task 111 = .ok (.goto (-26), 3) := by decide +kernel
theorem dX6_task_114 : decode cX6_task 114 = .ok (.aload_n 0, 1) := by decide +kernel
theorem dX6_task_115 : decode cX6_task 115 = .ok (.iconst 0, 1) := by decide +kernel
theorem dX6_task_116 : decode cX6_task 116 = .ok (.putfield 192, 3) := by decide +kernel
theorem dX6_task_119 : decode cX6_task 119 = .ok (.aload_n 0, 1) := by decide +kernel
theorem dX6_task_120 : decode cX6_task 120 = .ok (.getfield 25, 3) := by decide +kernel
theorem dX6_task_123 : decode cX6_task 123 = .ok (.iconst 0, 1) := by decide +kernel
theorem dX6_task_124 : decode cX6_task 124 = .ok (.iconst 0, 1) := by decide +kernel
theorem dX6_task_125 : decode cX6_task 125 = .ok (.bastore, 1) := by decide +kernel
theorem dX6_task_126 : decode cX6_task 126 = .ok (.aload_n 0, 1) := by decide +kernel
theorem dX6_task_127 : decode cX6_task 127 = .ok (.getfield 25, 3) := by decide +kernel
theorem dX6_task_130 : decode cX6_task 130 = .ok (.iconst 1, 1) := by decide +kernel
theorem dX6_task_131 : decode cX6_task 131 = .ok (.iconst 0, 1) := by decide +kernel
theorem dX6_task_132 : decode cX6_task 132 = .ok (.bastore, 1) := by decide +kernel
theorem dX6_task_133 : decode cX6_task 133 = .ok (.aload_n 0, 1) := by decide +kernel
theorem dX6_task_134 : decode cX6_task 134 = .ok (.getfield 13, 3) := by decide +kernel
theorem dX6_task_137 : decode cX6_task 137 = .ok (.bipush 83, 2) := by decide +kernel
theorem dX6_task_139 : decode cX6_task 139 = .ok (.iaload, 1) := by decide +kernel
theorem dX6_task_140 : decode cX6_task 140 = .ok (.ireturn, 1) := by decide +kernel
theorem dX6_isBeginning_0 : decode cX6_isBeginning 0 = .ok (.aload_n 0, 1) := by decide +kernel
theorem dX6_isBeginning_1 : decode cX6_isBeginning 1 = .ok (.getfield 13, 3) := by decide +kernel
theorem dX6_isBeginning_4 : decode cX6_isBeginning 4 = .ok (.bipush 84, 2) := by decide +kernel
theorem dX6_isBeginning_6 : decode cX6_isBeginning 6 = .ok (.iload_n 2, 1) := by decide +kernel
theorem dX6_isBeginning_7 : decode cX6_isBeginning 7 = .ok (.iadd, 1) := by decide +kernel
theorem dX6_isBeginning_8 : decode cX6_isBeginning 8 = .ok (.iaload, 1) := by decide +kernel
theorem dX6_isBeginning_9 : decode cX6_isBeginning 9 = .ok (.iload_n 3, 1) := by decide +kernel
theorem dX6_isBeginning_10 : decode cX6_isBeginning 10 = .ok (.if_icmp .lt 7, 3) := by decide +kernel
theorem dX6_isBeginning_13 : decode cX6_isBeginning 13 = .ok (.iconst 1, 1) := by decide +kernel
theorem dX6_isBeginning_14 : decode cX6_isBeginning 14 = .ok (.goto 4, 3) := by decide +kernel
theorem dX6_isBeginning_17 : decode cX6_isBeginning 17 = .ok (.iconst 0, 1) := by decide +kernel
theorem dX6_isBeginning_18 : decode cX6_isBeginning 18 = .ok (.istore 4, 2) := by decide +kernel
theorem dX6_isBeginning_20 : decode cX6_isBeginning 20 = .ok (.iconst 0, 1) := by decide +kernel
theorem dX6_isBeginning_21 : decode cX6_isBeginning 21 = .ok (.istore 5, 2) := by decide +kernel
theorem dX6_isBeginning_23 : decode cX6_isBeginning 23 = .ok (.iload 5, 2) := by decide +kernel
theorem dX6_isBeginning_25 : decode cX6_isBeginning 25 = .ok (.iload_n 3, 1) := by decide +kernel
theorem dX6_isBeginning_26 : decode cX6_isBeginning 26 = .ok (.if_icmp .ge 52, 3) := by decide +kernel
theorem dX6_isBeginning_29 : decode cX6_isBeginning 29 = .ok (.iload 4, 2) := by decide +kernel
theorem dX6_isBeginning_31 : decode cX6_isBeginning 31 = .ok (.ifCond .eq 38, 3) := by decide +kernel
theorem dX6_isBeginning_34 : decode cX6_isBeginning 34 = .ok (.aload_n 0, 1) := by decide +kernel
theorem dX6_isBeginning_35 : decode cX6_isBeginning 35 = .ok (.getfield 13, 3) := by decide +kernel
theorem dX6_isBeginning_38 : decode cX6_isBeginning 38 = .ok (.bipush 89, 2) := by decide +kernel
theorem dX6_isBeginning_40 : decode cX6_isBeginning 40 = .ok (.iconst 4, 1) := by decide +kernel
theorem dX6_isBeginning_41 : decode cX6_isBeginning 41 = .ok (.iload_n 1, 1) := by decide +kernel
theorem dX6_isBeginning_42 : decode cX6_isBeginning 42 = .ok (.imul, 1) := by decide +kernel
theorem dX6_isBeginning_43 : decode cX6_isBeginning 43 = .ok (.iadd, 1) := by decide +kernel
theorem dX6_isBeginning_44 : decode cX6_isBeginning 44 = .ok (.iload 5, 2) := by decide +kernel
theorem dX6_isBeginning_46 : decode cX6_isBeginning 46 = .ok (.iadd, 1) := by decide +kernel
theorem dX6_isBeginning_47 : decode cX6_isBeginning 47 = .ok (.iaload, 1) := by decide +kernel
theorem dX6_isBeginning_48 : decode cX6_isBeginning 48 = .ok (.aload_n 0, 1) := by decide +kernel
theorem dX6_isBeginning_49 : decode cX6_isBeginning 49 = .ok (.getfield 13, 3) := by decide +kernel
theorem dX6_isBeginning_52 : decode cX6_isBeginning 52 = .ok (.bipush 89, 2) := by decide +kernel
theorem dX6_isBeginning_54 : decode cX6_isBeginning 54 = .ok (.iconst 4, 1) := by decide +kernel
theorem dX6_isBeginning_55 : decode cX6_isBeginning 55 = .ok (.iload_n 2, 1) := by decide +kernel
theorem dX6_isBeginning_56 : decode cX6_isBeginning 56 = .ok (.imul, 1) := by decide +kernel
theorem dX6_isBeginning_57 : decode cX6_isBeginning 57 = .ok (.iadd, 1) := by decide +kernel
theorem dX6_isBeginning_58 : decode cX6_isBeginning 58 = .ok (.iload 5, 2) := by decide +kernel
theorem dX6_isBeginning_60 : decode cX6_isBeginning 60 = .ok (.iadd, 1) := by decide +kernel
theorem dX6_isBeginning_61 : decode cX6_isBeginning 61 = .ok (.iaload, 1) := by decide +kernel
theorem dX6_isBeginning_62 : decode cX6_isBeginning 62 = .ok (.if_icmp .ne 7, 3) := by decide +kernel
theorem dX6_isBeginning_65 : decode cX6_isBeginning 65 = .ok (.iconst 1, 1) := by decide +kernel
theorem dX6_isBeginning_66 : decode cX6_isBeginning 66 = .ok (.goto 4, 3) := by decide +kernel
theorem dX6_isBeginning_69 : decode cX6_isBeginning 69 = .ok (.iconst 0, 1) := by decide +kernel
theorem dX6_isBeginning_70 : decode cX6_isBeginning 70 = .ok (.istore 4, 2) := by decide +kernel
theorem dX6_isBeginning_72 : decode cX6_isBeginning 72 = .ok (.iinc 5 1, 3) := by decide +kernel
theorem dX6_isBeginning_75 : decode cX6_isBeginning 75 = .ok (.goto (-52), 3) := by decide +kernel
theorem dX6_isBeginning_78 : decode cX6_isBeginning 78 = .ok (.iload 4, 2) := by decide +kernel
theorem dX6_isBeginning_80 : decode cX6_isBeginning 80 = .ok (.ireturn, 1) := by decide +kernel
theorem dX6_shared_0 : decode cX6_shared 0 = .ok (.iconst 0, 1) := by decide +kernel
theorem dX6_shared_1 : decode cX6_shared 1 = .ok (.istore_n 1, 1) := by decide +kernel
theorem dX6_shared_2 : decode cX6_shared 2 = .ok (.iconst 0, 1) := by decide +kernel
theorem dX6_shared_3 : decode cX6_shared 3 = .ok (.istore_n 2, 1) := by decide +kernel
theorem dX6_shared_4 : decode cX6_shared 4 = .ok (.iload_n 2, 1) := by decide +kernel
theorem dX6_shared_5 : decode cX6_shared 5 = .ok (.aload_n 0, 1) := by decide +kernel
theorem dX6_shared_6 : decode cX6_shared 6 = .ok (.getfield 13, 3) := by decide +kernel
theorem dX6_shared_9 : decode cX6_shared 9 = .ok (.bipush 83, 2) := by decide +kernel
theorem dX6_shared_11 : decode cX6_shared 11 = .ok (.iaload, 1) := by decide +kernel
theorem dX6_shared_12 : decode cX6_shared 12 = .ok (.if_icmp .ge 84, 3) := by decide +kernel
theorem dX6_shared_15 : decode cX6_shared 15 = .ok (.iconst 1, 1) := by decide +kernel
theorem dX6_shared_16 : decode cX6_shared 16 = .ok (.istore_n 3, 1) := by decide +kernel
theorem dX6_shared_17 : decode cX6_shared 17 = .ok (.iload_n 3, 1) := by decide +kernel
theorem dX6_shared_18 : decode cX6_shared 18 = .ok (.aload_n 0, 1) := by decide +kernel
theorem dX6_shared_19 : decode cX6_shared 19 = .ok (.getfield 13, 3) := by decide +kernel
theorem dX6_shared_22 : decode cX6_shared 22 = .ok (.bipush 84, 2) := by decide +kernel
theorem dX6_shared_24 : decode cX6_shared 24 = .ok (.iload_n 2, 1) := by decide +kernel
theorem dX6_shared_25 : decode cX6_shared 25 = .ok (.iadd, 1) := by decide +kernel
theorem dX6_shared_26 : decode cX6_shared 26 = .ok (.iaload, 1) := by decide +kernel
theorem dX6_shared_27 : decode cX6_shared 27 = .ok (.if_icmp .gt 63, 3) := by decide +kernel
theorem dX6_shared_30 : decode cX6_shared 30 = .ok (.iconst 1, 1) := by decide +kernel
theorem dX6_shared_31 : decode cX6_shared 31 = .ok (.istore 4, 2) := by decide +kernel
theorem dX6_shared_33 : decode cX6_shared 33 = .ok (.iconst 0, 1) := by decide +kernel
theorem dX6_shared_34 : decode cX6_shared 34 = .ok (.istore 5, 2) := by decide +kernel
theorem dX6_shared_36 : decode cX6_shared 36 = .ok (.iload 5, 2) := by decide +kernel
theorem dX6_shared_38 : decode cX6_shared 38 = .ok (.iload_n 2, 1) := by decide +kernel
theorem dX6_shared_39 : decode cX6_shared 39 = .ok (.if_icmp .ge 32, 3) := by decide +kernel
theorem dX6_shared_42 : decode cX6_shared 42 = .ok (.iload 4, 2) := by decide +kernel
theorem dX6_shared_44 : decode cX6_shared 44 = .ok (.ifCond .eq 18, 3) := by decide +kernel
theorem dX6_shared_47 : decode cX6_shared 47 = .ok (.aload_n 0, 1) := by decide +kernel
theorem dX6_shared_48 : decode cX6_shared 48 = .ok (.iload_n 2, 1) := by decide +kernel
theorem dX6_shared_49 : decode cX6_shared 49 = .ok (.iload 5, 2) := by decide +kernel
theorem dX6_shared_51 : decode cX6_shared 51 = .ok (.iload_n 3, 1) := by decide +kernel
theorem dX6_shared_52 : decode cX6_shared 52 = .ok (.invokevirtual 195, 3) := by decide +kernel
theorem dX6_shared_55 : decode cX6_shared 55 = .ok (.ifCond .ne 7, 3) := by decide +kernel
theorem dX6_shared_58 : decode cX6_shared 58 = .ok (.iconst 1, 1) := by decide +kernel
theorem dX6_shared_59 : decode cX6_shared 59 = .ok (.goto 4, 3) := by decide +kernel
theorem dX6_shared_62 : decode cX6_shared 62 = .ok (.iconst 0, 1) := by decide +kernel
theorem dX6_shared_63 : decode cX6_shared 63 = .ok (.istore 4, 2) := by decide +kernel
theorem dX6_shared_65 : decode cX6_shared 65 = .ok (.iinc 5 1, 3) := by decide +kernel
theorem dX6_shared_68 : decode cX6_shared 68 = .ok (.goto (-32), 3) := by decide +kernel
theorem dX6_shared_71 : decode cX6_shared 71 = .ok (.iload_n 1, 1) := by decide +kernel
theorem dX6_shared_72 : decode cX6_shared 72 = .ok (.iload 4, 2) := by decide +kernel
theorem dX6_shared_74 : decode cX6_shared 74 = .ok (.ifCond .eq 7, 3) := by decide +kernel
theorem dX6_shared_77 : decode cX6_shared 77 = .ok (.iconst 1, 1) := by decide +kernel
theorem dX6_shared_78 : decode cX6_shared 78 = .ok (.goto 4, 3) := by decide +kernel
theorem dX6_shared_81 : decode cX6_shared 81 = .ok (.iconst 0, 1) := by decide +kernel
theorem dX6_shared_82 : decode cX6_shared 82 = .ok (.iadd, 1) := by decide +kernel
theorem dX6_shared_83 : decode cX6_shared 83 = .ok (.istore_n 1, 1) := by decide +kernel
theorem dX6_shared_84 : decode cX6_shared 84 = .ok (.iinc 3 1, 3) := by decide +kernel
theorem dX6_shared_87 : decode cX6_shared 87 = .ok (.goto (-70), 3) := by decide +kernel
theorem dX6_shared_90 : decode cX6_shared 90 = .ok (.iinc 2 1, 3) := by decide +kernel
theorem dX6_shared_93 : decode cX6_shared 93 = .ok (.goto (-89), 3) := by decide +kernel
theorem dX6_shared_96 : decode cX6_shared 96 = .ok (.iload_n 1, 1) := by decide +kernel
theorem dX6_shared_97 : decode cX6_shared 97 = .ok (.ireturn, 1) := by decide +kernel
theorem dX6_about_0 : decode cX6_about 0 = .ok (.iload_n 1, 1) := by decide +kernel
theorem dX6_about_1 : decode cX6_about 1 = .ok (.tableswitch 118 0 8 #[51, 59, 67, 75, 90, 98, 103, 108, 113], 51) := by decide +kernel
theorem dX6_about_52 : decode cX6_about 52 = .ok (.aload_n 0, 1) := by decide +kernel
theorem dX6_about_53 : decode cX6_about 53 = .ok (.getfield 13, 3) := by decide +kernel
theorem dX6_about_56 : decode cX6_about 56 = .ok (.bipush 83, 2) := by decide +kernel
theorem dX6_about_58 : decode cX6_about 58 = .ok (.iaload, 1) := by decide +kernel
theorem dX6_about_59 : decode cX6_about 59 = .ok (.ireturn, 1) := by decide +kernel
theorem dX6_about_60 : decode cX6_about 60 = .ok (.aload_n 0, 1) := by decide +kernel
theorem dX6_about_61 : decode cX6_about 61 = .ok (.getfield 13, 3) := by decide +kernel
theorem dX6_about_64 : decode cX6_about 64 = .ok (.bipush 80, 2) := by decide +kernel
theorem dX6_about_66 : decode cX6_about 66 = .ok (.iaload, 1) := by decide +kernel
theorem dX6_about_67 : decode cX6_about 67 = .ok (.ireturn, 1) := by decide +kernel
theorem dX6_about_68 : decode cX6_about 68 = .ok (.aload_n 0, 1) := by decide +kernel
theorem dX6_about_69 : decode cX6_about 69 = .ok (.getfield 13, 3) := by decide +kernel
theorem dX6_about_72 : decode cX6_about 72 = .ok (.bipush 81, 2) := by decide +kernel
theorem dX6_about_74 : decode cX6_about 74 = .ok (.iaload, 1) := by decide +kernel
theorem dX6_about_75 : decode cX6_about 75 = .ok (.ireturn, 1) := by decide +kernel
theorem dX6_about_76 : decode cX6_about 76 = .ok (.aload_n 0, 1) := by decide +kernel
theorem dX6_about_77 : decode cX6_about 77 = .ok (.getfield 13, 3) := by decide +kernel
theorem dX6_about_80 : decode cX6_about 80 = .ok (.aload_n 0, 1) := by decide +kernel
theorem dX6_about_81 : decode cX6_about 81 = .ok (.getfield 13, 3) := by decide +kernel
theorem dX6_about_84 : decode cX6_about 84 = .ok (.bipush 81, 2) := by decide +kernel
theorem dX6_about_86 : decode cX6_about 86 = .ok (.iaload, 1) := by decide +kernel
theorem dX6_about_87 : decode cX6_about 87 = .ok (.invokestatic 163, 3) := by decide +kernel
theorem dX6_about_90 : decode cX6_about 90 = .ok (.ireturn, 1) := by decide +kernel
theorem dX6_about_91 : decode cX6_about 91 = .ok (.aload_n 0, 1) := by decide +kernel
theorem dX6_about_92 : decode cX6_about 92 = .ok (.getfield 13, 3) := by decide +kernel
theorem dX6_about_95 : decode cX6_about 95 = .ok (.bipush 82, 2) := by decide +kernel
theorem dX6_about_97 : decode cX6_about 97 = .ok (.iaload, 1) := by decide +kernel
theorem dX6_about_98 : decode cX6_about 98 = .ok (.ireturn, 1) := by decide +kernel
theorem dX6_about_99 : decode cX6_about 99 = .ok (.aload_n 0, 1) := by decide +kernel
theorem dX6_about_100 : decode cX6_about 100 = .ok (.invokevirtual 199, 3) := by decide +kernel
theorem dX6_about_103 : decode cX6_about 103 = .ok (.ireturn, 1) := by decide +kernel
theorem dX6_about_104 : decode cX6_about 104 = .ok (.aload_n 0, 1) := by decide +kernel
theorem dX6_about_105 : decode cX6_about 105 = .ok (.getfield 192, 3) := by decide +kernel
theorem dX6_about_108 : decode cX6_about 108 = .ok (.ireturn, 1) := by decide +kernel
theorem dX6_about_109 : decode cX6_about 109 = .ok (.aload_n 0, 1) := by decide +kernel
theorem dX6_about_110 : decode cX6_about 110 = .ok (.getfield 202, 3) := by decide +kernel
theorem dX6_about_113 : decode cX6_about 113 = .ok (.ireturn, 1) := by decide +kernel
theorem dX6_about_114 : decode cX6_about 114 = .ok (.aload_n 0, 1) := by decide +kernel
theorem dX6_about_115 : decode cX6_about 115 = .ok (.getfield 70, 3) := by decide +kernel
theorem dX6_about_118 : decode cX6_about 118 = .ok (.ireturn, 1) := by decide +kernel
theorem dX6_about_119 : decode cX6_about 119 = .ok (.bipush (-2), 2) := by decide +kernel
theorem dX6_about_121 : decode cX6_about 121 = .ok (.ireturn, 1) := by decide +kernel
theorem dX6_element_0 : decode cX6_element 0 = .ok (.aload_n 0, 1) := by decide +kernel
theorem dX6_element_1 : decode cX6_element 1 = .ok (.iload_n 1, 1) := by decide +kernel
theorem dX6_element_2 : decode cX6_element 2 = .ok (.invokevirtual 205, 3) := by decide +kernel
theorem dX6_element_5 : decode cX6_element 5 = .ok (.ifCond .ne 5, 3) := by decide +kernel
theorem dX6_element_8 : decode cX6_element 8 = .ok (.iconst (-1), 1) := by decide +kernel
theorem dX6_element_9 : decode cX6_element 9 = .ok (.ireturn, 1) := by decide +kernel
theorem dX6_element_10 : decode cX6_element 10 = .ok (.iload_n 2, 1) := by decide +kernel
theorem dX6_element_11 : decode cX6_element 11 = .ok (.tableswitch 92 0 5 #[37, 44, 54, 63, 73, 83], 37) := by decide +kernel
theorem dX6_element_48 : decode cX6_element 48 = .ok (.aload_n 0, 1) := by decide +kernel
theorem dX6_element_49 : decode cX6_element 49 = .ok (.getfield 13, 3) := by decide +kernel
theorem dX6_element_52 : decode cX6_element 52 = .ok (.iload_n 1, 1) := by decide +kernel
theorem dX6_element_53 : decode cX6_element 53 = .ok (.iaload, 1) := by decide +kernel
theorem dX6_element_54 : decode cX6_element 54 = .ok (.ireturn, 1) := by decide +kernel
theorem dX6_element_55 : decode cX6_element 55 = .ok (.aload_n 0, 1) := by decide +kernel
theorem dX6_element_56 : decode cX6_element 56 = .ok (.getfield 13, 3) := by decide +kernel
theorem dX6_element_59 : decode cX6_element 59 = .ok (.bipush 20, 2) := by decide +kernel
theorem dX6_element_61 : decode cX6_element 61 = .ok (.iload_n 1, 1) := by decide +kernel
theorem dX6_element_62 : decode cX6_element 62 = .ok (.iadd, 1) := by decide +kernel
theorem dX6_element_63 : decode cX6_element 63 = .ok (.iaload, 1) := by decide +kernel
theorem dX6_element_64 : decode cX6_element 64 = .ok (.ireturn, 1) := by decide +kernel
theorem dX6_element_65 : decode cX6_element 65 = .ok (.aload_n 0, 1) := by decide +kernel
theorem dX6_element_66 : decode cX6_element 66 = .ok (.getfield 13, 3) := by decide +kernel
theorem dX6_element_69 : decode cX6_element 69 = .ok (.iload_n 1, 1) := by decide +kernel
theorem dX6_element_70 : decode cX6_element 70 = .ok (.invokestatic 163, 3) := by decide +kernel
theorem dX6_element_73 : decode cX6_element 73 = .ok (.ireturn, 1) := by decide +kernel
theorem dX6_element_74 : decode cX6_element 74 = .ok (.aload_n 0, 1) := by decide +kernel
theorem dX6_element_75 : decode cX6_element 75 = .ok (.getfield 13, 3) := by decide +kernel
theorem dX6_element_78 : decode cX6_element 78 = .ok (.bipush 40, 2) := by decide +kernel
theorem dX6_element_80 : decode cX6_element 80 = .ok (.iload_n 1, 1) := by decide +kernel
theorem dX6_element_81 : decode cX6_element 81 = .ok (.iadd, 1) := by decide +kernel
theorem dX6_element_82 : decode cX6_element 82 = .ok (.iaload, 1) := by decide +kernel
theorem dX6_element_83 : decode cX6_element 83 = .ok (.ireturn, 1) := by decide +kernel
theorem dX6_element_84 : decode cX6_element 84 = .ok (.aload_n 0, 1) := by decide +kernel
theorem dX6_element_85 : decode cX6_element 85 = .ok (.getfield 13, 3) := by decide +kernel
theorem dX6_element_88 : decode cX6_element 88 = .ok (.bipush 60, 2) := by decide +kernel
theorem dX6_element_90 : decode cX6_element 90 = .ok (.iload_n 1, 1) := by decide +kernel
theorem dX6_element_91 : decode cX6_element 91 = .ok (.iadd, 1) := by decide +kernel
theorem dX6_element_92 : decode cX6_element 92 = .ok (.iaload, 1) := by decide +kernel
theorem dX6_element_93 : decode cX6_element 93 = .ok (.ireturn, 1) := by decide +kernel
theorem dX6_element_94 : decode cX6_element 94 = .ok (.aload_n 0, 1) := by decide +kernel
theorem dX6_element_95 : decode cX6_element 95 = .ok (.getfield 13, 3) := by decide +kernel
theorem dX6_element_98 : decode cX6_element 98 = .ok (.iload_n 1, 1) := by decide +kernel
theorem dX6_element_99 : decode cX6_element 99 = .ok (.invokestatic 118, 3) := by decide +kernel
theorem dX6_element_102 : decode cX6_element 102 = .ok (.ireturn, 1) := by decide +kernel
theorem dX6_element_103 : decode cX6_element 103 = .ok (.bipush (-2), 2) := by decide +kernel
theorem dX6_element_105 : decode cX6_element 105 = .ok (.ireturn, 1) := by decide +kernel
theorem dX6_path_0 : decode cX6_path 0 = .ok (.aload_n 0, 1) := by decide +kernel
theorem dX6_path_1 : decode cX6_path 1 = .ok (.iload_n 1, 1) := by decide +kernel
theorem dX6_path_2 : decode cX6_path 2 = .ok (.invokevirtual 208, 3) := by decide +kernel
theorem dX6_path_5 : decode cX6_path 5 = .ok (.ifCond .ne 5, 3) := by decide +kernel
theorem dX6_path_8 : decode cX6_path 8 = .ok (.iconst (-1), 1) := by decide +kernel
theorem dX6_path_9 : decode cX6_path 9 = .ok (.ireturn, 1) := by decide +kernel
theorem dX6_path_10 : decode cX6_path 10 = .ok (.iload_n 2, 1) := by decide +kernel
theorem dX6_path_11 : decode cX6_path 11 = .ok (.tableswitch 158 0 6 #[41, 51, 64, 77, 87, 97, 110], 41) := by decide +kernel
theorem dX6_path_52 : decode cX6_path 52 = .ok (.aload_n 0, 1) := by decide +kernel
theorem dX6_path_53 : decode cX6_path 53 = .ok (.getfield 13, 3) := by decide +kernel
theorem dX6_path_56 : decode cX6_path 56 = .ok (.bipush 84, 2) := by decide +kernel
theorem dX6_path_58 : decode cX6_path 58 = .ok (.iload_n 1, 1) := by decide +kernel
theorem dX6_path_59 : decode cX6_path 59 = .ok (.iadd, 1) := by decide +kernel
theorem dX6_path_60 : decode cX6_path 60 = .ok (.iaload, 1) := by decide +kernel
theorem dX6_path_61 : decode cX6_path 61 = .ok (.ireturn, 1) := by decide +kernel
theorem dX6_path_62 : decode cX6_path 62 = .ok (.aload_n 0, 1) := by decide +kernel
theorem dX6_path_63 : decode cX6_path 63 = .ok (.aload_n 0, 1) := by decide +kernel
theorem dX6_path_64 : decode cX6_path 64 = .ok (.getfield 13, 3) := by decide +kernel
theorem dX6_path_67 : decode cX6_path 67 = .ok (.iload_n 1, 1) := by decide +kernel
theorem dX6_path_68 : decode cX6_path 68 = .ok (.invokevirtual 144, 3) := by decide +kernel
theorem dX6_path_71 : decode cX6_path 71 = .ok (.invokestatic 153, 3) := by decide +kernel
theorem dX6_path_74 : decode cX6_path 74 = .ok (.ireturn, 1) := by decide +kernel
theorem dX6_path_75 : decode cX6_path 75 = .ok (.aload_n 0, 1) := by decide +kernel
theorem dX6_path_76 : decode cX6_path 76 = .ok (.aload_n 0, 1) := by decide +kernel
theorem dX6_path_77 : decode cX6_path 77 = .ok (.getfield 13, 3) := by decide +kernel
theorem dX6_path_80 : decode cX6_path 80 = .ok (.iload_n 1, 1) := by decide +kernel
theorem dX6_path_81 : decode cX6_path 81 = .ok (.invokevirtual 150, 3) := by decide +kernel
theorem dX6_path_84 : decode cX6_path 84 = .ok (.invokestatic 153, 3) := by decide +kernel
theorem dX6_path_87 : decode cX6_path 87 = .ok (.ireturn, 1) := by decide +kernel
theorem dX6_path_88 : decode cX6_path 88 = .ok (.aload_n 0, 1) := by decide +kernel
theorem dX6_path_89 : decode cX6_path 89 = .ok (.aload_n 0, 1) := by decide +kernel
theorem dX6_path_90 : decode cX6_path 90 = .ok (.getfield 13, 3) := by decide +kernel
theorem dX6_path_93 : decode cX6_path 93 = .ok (.iload_n 1, 1) := by decide +kernel
theorem dX6_path_94 : decode cX6_path 94 = .ok (.invokevirtual 157, 3) := by decide +kernel
theorem dX6_path_97 : decode cX6_path 97 = .ok (.ireturn, 1) := by decide +kernel
theorem dX6_path_98 : decode cX6_path 98 = .ok (.aload_n 0, 1) := by decide +kernel
theorem dX6_path_99 : decode cX6_path 99 = .ok (.getfield 13, 3) := by decide +kernel
theorem dX6_path_102 : decode cX6_path 102 = .ok (.bipush 109, 2) := by decide +kernel
theorem dX6_path_104 : decode cX6_path 104 = .ok (.iload_n 1, 1) := by decide +kernel
theorem dX6_path_105 : decode cX6_path 105 = .ok (.iadd, 1) := by decide +kernel
theorem dX6_path_106 : decode cX6_path 106 = .ok (.iaload, 1) := by decide +kernel
theorem dX6_path_107 : decode cX6_path 107 = .ok (.ireturn, 1) := by decide +kernel
theorem dX6_path_108 : decode cX6_path 108 = .ok (.aload_n 0, 1) := by decide +kernel
theorem dX6_path_109 : decode cX6_path 109 = .ok (.aload_n 0, 1) := by decide +kernel
theorem dX6_path_110 : decode cX6_path 110 = .ok (.getfield 13, 3) := by decide +kernel
theorem dX6_path_113 : decode cX6_path 113 = .ok (.iload_n 1, 1) := by decide +kernel
theorem dX6_path_114 : decode cX6_path 114 = .ok (.invokevirtual 147, 3) := by decide +kernel
theorem dX6_path_117 : decode cX6_path 117 = .ok (.invokestatic 153, 3) := by decide +kernel
theorem dX6_path_120 : decode cX6_path 120 = .ok (.ireturn, 1) := by decide +kernel
theorem dX6_path_121 : decode cX6_path 121 = .ok (.aload_n 0, 1) := by decide +kernel
theorem dX6_path_122 : decode cX6_path 122 = .ok (.getfield 13, 3) := by decide +kernel
theorem dX6_path_125 : decode cX6_path 125 = .ok (.aload_n 0, 1) := by decide +kernel
theorem dX6_path_126 : decode cX6_path 126 = .ok (.getfield 16, 3) := by decide +kernel
theorem dX6_path_129 : decode cX6_path 129 = .ok (.invokestatic 211, 3) := by decide +kernel
theorem dX6_path_132 : decode cX6_path 132 = .ok (.aload_n 0, 1) := by decide +kernel
theorem dX6_path_133 : decode cX6_path 133 = .ok (.getfield 16, 3) := by decide +kernel
theorem dX6_path_136 : decode cX6_path 136 = .ok (.bipush 81, 2) := by decide +kernel
theorem dX6_path_138 : decode cX6_path 138 = .ok (.iaload, 1) := by decide +kernel
theorem dX6_path_139 : decode cX6_path 139 = .ok (.bipush (-9), 2) := by decide +kernel
theorem dX6_path_141 : decode cX6_path 141 = .ok (.if_icmp .eq 15, 3) := by decide +kernel
theorem dX6_path_144 : decode cX6_path 144 = .ok (.aload_n 0, 1) := by decide +kernel
theorem dX6_path_145 : decode cX6_path 145 = .ok (.aload_n 0, 1) := by decide +kernel
theorem dX6_path_146 : decode cX6_path 146 = .ok (.getfield 16, 3) := by decide +kernel
theorem dX6_path_149 : decode cX6_path 149 = .ok (.invokevirtual 178, 3) := by decide +kernel
theorem dX6_path_152 : decode cX6_path 152 = .ok (.istore_n 3, 1) := by decide +kernel
theorem dX6_path_153 : decode cX6_path 153 = .ok (.goto (-21), 3) := by decide +kernel
theorem dX6_path_156 : decode cX6_path 156 = .ok (.aload_n 0, 1) := by decide +kernel
theorem dX6_path_157 : decode cX6_path 157 = .ok (.aload_n 0, 1) := by decide +kernel
theorem dX6_path_158 : decode cX6_path 158 = .ok (.getfield 16, 3) := by decide +kernel
theorem dX6_path_161 : decode cX6_path 161 = .ok (.iload_n 1, 1) := by decide +kernel
theorem dX6_path_162 : decode cX6_path 162 = .ok (.invokevirtual 150, 3) := by decide +kernel
theorem dX6_path_165 : decode cX6_path 165 = .ok (.invokestatic 153, 3) := by decide +kernel
theorem dX6_path_168 : decode cX6_path 168 = .ok (.ireturn, 1) := by decide +kernel
theorem dX6_path_169 : decode cX6_path 169 = .ok (.bipush (-2), 2) := by decide +kernel
theorem dX6_path_171 : decode cX6_path 171 = .ok (.ireturn, 1) := by decide +kernel
theorem dX6_step_0 : decode cX6_step 0 = .ok (.aload_n 0, 1) := by decide +kernel
theorem dX6_step_1 : decode cX6_step 1 = .ok (.iload_n 1, 1) := by decide +kernel
theorem dX6_step_2 : decode cX6_step 2 = .ok (.invokevirtual 208, 3) := by decide +kernel
theorem dX6_step_5 : decode cX6_step 5 = .ok (.ifCond .eq 40, 3) := by decide +kernel
theorem dX6_step_8 : decode cX6_step 8 = .ok (.iload_n 2, 1) := by decide +kernel
theorem dX6_step_9 : decode cX6_step 9 = .ok (.i2l, 1) := by decide +kernel
theorem dX6_step_10 : decode cX6_step 10 = .ok (.lconst 0, 1) := by decide +kernel
theorem dX6_step_11 : decode cX6_step 11 = .ok (.aload_n 0, 1) := by decide +kernel
theorem dX6_step_12 : decode cX6_step 12 = .ok (.getfield 13, 3) := by decide +kernel
theorem dX6_step_15 : decode cX6_step 15 = .ok (.bipush 84, 2) := by decide +kernel
theorem dX6_step_17 : decode cX6_step 17 = .ok (.iload_n 1, 1) := by decide +kernel
theorem dX6_step_18 : decode cX6_step 18 = .ok (.iadd, 1) := by decide +kernel
theorem dX6_step_19 : decode cX6_step 19 = .ok (.iaload, 1) := by decide +kernel
theorem dX6_step_20 : decode cX6_step 20 = .ok (.iconst 1, 1) := by decide +kernel
theorem dX6_step_21 : decode cX6_step 21 = .ok (.isub, 1) := by decide +kernel
theorem dX6_step_22 : decode cX6_step 22 = .ok (.i2l, 1) := by decide +kernel
theorem dX6_step_23 : decode cX6_step 23 = .ok (.invokestatic 64, 3) := by decide +kernel
theorem dX6_step_26 : decode cX6_step 26 = .ok (.ifCond .eq 19, 3) := by decide +kernel
theorem dX6_step_29 : decode cX6_step 29 = .ok (.aload_n 0, 1) := by decide +kernel
theorem dX6_step_30 : decode cX6_step 30 = .ok (.getfield 13, 3) := by decide +kernel
theorem dX6_step_33 : decode cX6_step 33 = .ok (.bipush 89, 2) := by decide +kernel
theorem dX6_step_35 : decode cX6_step 35 = .ok (.iconst 4, 1) := by decide +kernel
theorem dX6_step_36 : decode cX6_step 36 = .ok (.iload_n 1, 1) := by decide +kernel
theorem dX6_step_37 : decode cX6_step 37 = .ok (.imul, 1) := by decide +kernel
theorem dX6_step_38 : decode cX6_step 38 = .ok (.iadd, 1) := by decide +kernel
theorem dX6_step_39 : decode cX6_step 39 = .ok (.iload_n 2, 1) := by decide +kernel
theorem dX6_step_40 : decode cX6_step 40 = .ok (.iadd, 1) := by decide +kernel
theorem dX6_step_41 : decode cX6_step 41 = .ok (.iaload, 1) := by decide +kernel
theorem dX6_step_42 : decode cX6_step 42 = .ok (.goto 4, 3) := by decide +kernel
theorem dX6_step_45 : decode cX6_step 45 = .ok (.iconst (-1), 1) := by decide +kernel
theorem dX6_step_46 : decode cX6_step 46 = .ok (.ireturn, 1) := by decide +kernel
theorem dX6_is_0 : decode cX6_is 0 = .ok (.aload_n 0, 1) := by decide +kernel
theorem dX6_is_1 : decode cX6_is 1 = .ok (.iload_n 1, 1) := by decide +kernel
theorem dX6_is_2 : decode cX6_is 2 = .ok (.invokevirtual 208, 3) := by decide +kernel
theorem dX6_is_5 : decode cX6_is 5 = .ok (.ifCond .eq 11, 3) := by decide +kernel
theorem dX6_is_8 : decode cX6_is 8 = .ok (.aload_n 0, 1) := by decide +kernel
theorem dX6_is_9 : decode cX6_is 9 = .ok (.iload_n 2, 1) := by decide +kernel
theorem dX6_is_10 : decode cX6_is 10 = .ok (.invokevirtual 205, 3) := by decide +kernel
theorem dX6_is_13 : decode cX6_is 13 = .ok (.ifCond .ne 5, 3) := by decide +kernel
theorem dX6_is_16 : decode cX6_is 16 = .ok (.iconst (-1), 1) := by decide +kernel
theorem dX6_is_17 : decode cX6_is 17 = .ok (.ireturn, 1) := by decide +kernel
theorem dX6_is_18 : decode cX6_is 18 = .ok (.aload_n 0, 1) := by decide +kernel
theorem dX6_is_19 : decode cX6_is 19 = .ok (.aload_n 0, 1) := by decide +kernel
theorem dX6_is_20 : decode cX6_is 20 = .ok (.getfield 13, 3) := by decide +kernel
theorem dX6_is_23 : decode cX6_is 23 = .ok (.iload_n 1, 1) := by decide +kernel
theorem dX6_is_24 : decode cX6_is 24 = .ok (.iload_n 2, 1) := by decide +kernel
theorem dX6_is_25 : decode cX6_is 25 = .ok (.iconst 0, 1) := by decide +kernel
theorem dX6_is_26 : decode cX6_is 26 = .ok (.invokevirtual 141, 3) := by decide +kernel
theorem dX6_is_29 : decode cX6_is 29 = .ok (.ifCond .eq 7, 3) := by decide +kernel
theorem dX6_is_32 : decode cX6_is 32 = .ok (.iconst 2, 1) := by decide +kernel
theorem dX6_is_33 : decode cX6_is 33 = .ok (.goto 22, 3) := by decide +kernel
theorem dX6_is_36 : decode cX6_is 36 = .ok (.aload_n 0, 1) := by decide +kernel
theorem dX6_is_37 : decode cX6_is 37 = .ok (.aload_n 0, 1) := by decide +kernel
theorem dX6_is_38 : decode cX6_is 38 = .ok (.getfield 13, 3) := by decide +kernel
theorem dX6_is_41 : decode cX6_is 41 = .ok (.iload_n 1, 1) := by decide +kernel
theorem dX6_is_42 : decode cX6_is 42 = .ok (.iload_n 2, 1) := by decide +kernel
theorem dX6_is_43 : decode cX6_is 43 = .ok (.iconst 1, 1) := by decide +kernel
theorem dX6_is_44 : decode cX6_is 44 = .ok (.invokevirtual 141, 3) := by decide +kernel
theorem dX6_is_47 : decode cX6_is 47 = .ok (.ifCond .eq 7, 3) := by decide +kernel
theorem dX6_is_50 : decode cX6_is 50 = .ok (.iconst 1, 1) := by decide +kernel
theorem dX6_is_51 : decode cX6_is 51 = .ok (.goto 4, 3) := by decide +kernel
theorem dX6_is_54 : decode cX6_is 54 = .ok (.iconst 0, 1) := by decide +kernel
theorem dX6_is_55 : decode cX6_is 55 = .ok (.ireturn, 1) := by decide +kernel
theorem dX6_ends_0 : decode cX6_ends 0 = .ok (.aload_n 0, 1) := by decide +kernel
theorem dX6_ends_1 : decode cX6_ends 1 = .ok (.iload_n 1, 1) := by decide +kernel
theorem dX6_ends_2 : decode cX6_ends 2 = .ok (.invokevirtual 208, 3) := by decide +kernel
theorem dX6_ends_5 : decode cX6_ends 5 = .ok (.ifCond .eq 25, 3) := by decide +kernel
theorem dX6_ends_8 : decode cX6_ends 8 = .ok (.aload_n 0, 1) := by decide +kernel
theorem dX6_ends_9 : decode cX6_ends 9 = .ok (.iload_n 2, 1) := by decide +kernel
theorem dX6_ends_10 : decode cX6_ends 10 = .ok (.invokevirtual 205, 3) := by decide +kernel
theorem dX6_ends_13 : decode cX6_ends 13 = .ok (.ifCond .eq 17, 3) := by decide +kernel
theorem dX6_ends_16 : decode cX6_ends 16 = .ok (.aload_n 0, 1) := by decide +kernel
theorem dX6_ends_17 : decode cX6_ends 17 = .ok (.aload_n 0, 1) := by decide +kernel
theorem dX6_ends_18 : decode cX6_ends 18 = .ok (.getfield 13, 3) := by decide +kernel
theorem dX6_ends_21 : decode cX6_ends 21 = .ok (.iload_n 1, 1) := by decide +kernel
theorem dX6_ends_22 : decode cX6_ends 22 = .ok (.iload_n 2, 1) := by decide +kernel
theorem dX6_ends_23 : decode cX6_ends 23 = .ok (.iconst 0, 1) := by decide +kernel
theorem dX6_ends_24 : decode cX6_ends 24 = .ok (.invokevirtual 137, 3) := by decide +kernel
theorem dX6_ends_27 : decode cX6_ends 27 = .ok (.goto 4, 3) := by decide +kernel
theorem dX6_ends_30 : decode cX6_ends 30 = .ok (.iconst (-1), 1) := by decide +kernel
theorem dX6_ends_31 : decode cX6_ends 31 = .ok (.ireturn, 1) := by decide +kernel
theorem dX6_out_0 : decode cX6_out 0 = .ok (.aload_n 0, 1) := by decide +kernel
theorem dX6_out_1 : decode cX6_out 1 = .ok (.iload_n 1, 1) := by decide +kernel
theorem dX6_out_2 : decode cX6_out 2 = .ok (.invokevirtual 208, 3) := by decide +kernel
theorem dX6_out_5 : decode cX6_out 5 = .ok (.ifCond .ne 5, 3) := by decide +kernel
theorem dX6_out_8 : decode cX6_out 8 = .ok (.iconst (-1), 1) := by decide +kernel
theorem dX6_out_9 : decode cX6_out 9 = .ok (.ireturn, 1) := by decide +kernel
theorem dX6_out_10 : decode cX6_out 10 = .ok (.aload_n 0, 1) := by decide +kernel
theorem dX6_out_11 : decode cX6_out 11 = .ok (.aload_n 0, 1) := by decide +kernel
theorem dX6_out_12 : decode cX6_out 12 = .ok (.getfield 13, 3) := by decide +kernel
theorem dX6_out_15 : decode cX6_out 15 = .ok (.iload_n 1, 1) := by decide +kernel
theorem dX6_out_16 : decode cX6_out 16 = .ok (.invokevirtual 150, 3) := by decide +kernel
theorem dX6_out_19 : decode cX6_out 19 = .ok (.istore 4, 2) := by decide +kernel
theorem dX6_out_21 : decode cX6_out 21 = .ok (.iload_n 2, 1) := by decide +kernel
theorem dX6_out_22 : decode cX6_out 22 = .ok (.istore 5, 2) := by decide +kernel
theorem dX6_out_24 : decode cX6_out 24 = .ok (.iconst 0, 1) := by decide +kernel
theorem dX6_out_25 : decode cX6_out 25 = .ok (.istore 6, 2) := by decide +kernel
theorem dX6_out_27 : decode cX6_out 27 = .ok (.iload 6, 2) := by decide +kernel
theorem dX6_out_29 : decode cX6_out 29 = .ok (.bipush 20, 2) := by decide +kernel
theorem dX6_out_31 : decode cX6_out 31 = .ok (.if_icmp .ge 57, 3) := by decide +kernel
theorem dX6_out_34 : decode cX6_out 34 = .ok (.iload 5, 2) := by decide +kernel
theorem dX6_out_36 : decode cX6_out 36 = .ok (.ifCond .lt 52, 3) := by decide +kernel
theorem dX6_out_39 : decode cX6_out 39 = .ok (.iload 4, 2) := by decide +kernel
theorem dX6_out_41 : decode cX6_out 41 = .ok (.iload 6, 2) := by decide +kernel
theorem dX6_out_43 : decode cX6_out 43 = .ok (.invokestatic 122, 3) := by decide +kernel
theorem dX6_out_46 : decode cX6_out 46 = .ok (.ifCond .eq 36, 3) := by decide +kernel
theorem dX6_out_49 : decode cX6_out 49 = .ok (.iload 5, 2) := by decide +kernel
theorem dX6_out_51 : decode cX6_out 51 = .ok (.ifCond .ne 28, 3) := by decide +kernel
theorem dX6_out_54 : decode cX6_out 54 = .ok (.iload_n 3, 1) := by decide +kernel
theorem dX6_out_55 : decode cX6_out 55 = .ok (.ifCond .eq 21, 3) := by decide +kernel
theorem dX6_out_58 : decode cX6_out 58 = .ok (.aload_n 0, 1) := by decide +kernel
theorem dX6_out_59 : decode cX6_out 59 = .ok (.getfield 13, 3) := by decide +kernel
theorem dX6_out_62 : decode cX6_out 62 = .ok (.bipush 114, 2) := by decide +kernel
theorem dX6_out_64 : decode cX6_out 64 = .ok (.bipush 20, 2) := by decide +kernel
theorem dX6_out_66 : decode cX6_out 66 = .ok (.iload_n 1, 1) := by decide +kernel
theorem dX6_out_67 : decode cX6_out 67 = .ok (.imul, 1) := by decide +kernel
theorem dX6_out_68 : decode cX6_out 68 = .ok (.iadd, 1) := by decide +kernel
theorem dX6_out_69 : decode cX6_out 69 = .ok (.iload 6, 2) := by decide +kernel
theorem dX6_out_71 : decode cX6_out 71 = .ok (.iadd, 1) := by decide +kernel
theorem dX6_out_72 : decode cX6_out 72 = .ok (.iaload, 1) := by decide +kernel
theorem dX6_out_73 : decode cX6_out 73 = .ok (.goto 5, 3) := by decide +kernel
theorem dX6_out_76 : decode cX6_out 76 = .ok (.iload 6, 2) := by decide +kernel
theorem dX6_out_78 : decode cX6_out 78 = .ok (.ireturn, 1) := by decide +kernel
theorem dX6_out_79 : decode cX6_out 79 = .ok (.iinc 5 (-1), 3) := by decide +kernel
theorem dX6_out_82 : decode cX6_out 82 = .ok (.iinc 6 1, 3) := by decide +kernel
theorem dX6_out_85 : decode cX6_out 85 = .ok (.goto (-58), 3) := by decide +kernel
theorem dX6_out_88 : decode cX6_out 88 = .ok (.bipush (-9), 2) := by decide +kernel
theorem dX6_out_90 : decode cX6_out 90 = .ok (.ireturn, 1) := by decide +kernel
theorem dX6_note_0 : decode cX6_note 0 = .ok (.iconst 0, 1) := by decide +kernel
theorem dX6_note_1 : decode cX6_note 1 = .ok (.istore_n 1, 1) := by decide +kernel
theorem dX6_note_2 : decode cX6_note 2 = .ok (.iload_n 1, 1) := by decide +kernel
theorem dX6_note_3 : decode cX6_note 3 = .ok (.sipush 214, 3) := by decide +kernel
theorem dX6_note_6 : decode cX6_note 6 = .ok (.if_icmp .ge 30, 3) := by decide +kernel
theorem dX6_note_9 : decode cX6_note 9 = .ok (.aload_n 0, 1) := by decide +kernel
theorem dX6_note_10 : decode cX6_note 10 = .ok (.getfield 19, 3) := by decide +kernel
theorem dX6_note_13 : decode cX6_note 13 = .ok (.sipush 214, 3) := by decide +kernel
theorem dX6_note_16 : decode cX6_note 16 = .ok (.aload_n 0, 1) := by decide +kernel
theorem dX6_note_17 : decode cX6_note 17 = .ok (.getfield 215, 3) := by decide +kernel
theorem dX6_note_20 : decode cX6_note 20 = .ok (.imul, 1) := by decide +kernel
theorem dX6_note_21 : decode cX6_note 21 = .ok (.iload_n 1, 1) := by decide +kernel
theorem dX6_note_22 : decode cX6_note 22 = .ok (.iadd, 1) := by decide +kernel
theorem dX6_note_23 : decode cX6_note 23 = .ok (.aload_n 0, 1) := by decide +kernel
theorem dX6_note_24 : decode cX6_note 24 = .ok (.getfield 13, 3) := by decide +kernel
theorem dX6_note_27 : decode cX6_note 27 = .ok (.iload_n 1, 1) := by decide +kernel
theorem dX6_note_28 : decode cX6_note 28 = .ok (.iaload, 1) := by decide +kernel
theorem dX6_note_29 : decode cX6_note 29 = .ok (.iastore, 1) := by decide +kernel
theorem dX6_note_30 : decode cX6_note 30 = .ok (.iinc 1 1, 3) := by decide +kernel
theorem dX6_note_33 : decode cX6_note 33 = .ok (.goto (-31), 3) := by decide +kernel
theorem dX6_note_36 : decode cX6_note 36 = .ok (.aload_n 0, 1) := by decide +kernel
theorem dX6_note_37 : decode cX6_note 37 = .ok (.aload_n 0, 1) := by decide +kernel
theorem dX6_note_38 : decode cX6_note 38 = .ok (.getfield 215, 3) := by decide +kernel
theorem dX6_note_41 : decode cX6_note 41 = .ok (.iconst 1, 1) := by decide +kernel
theorem dX6_note_42 : decode cX6_note 42 = .ok (.iadd, 1) := by decide +kernel
theorem dX6_note_43 : decode cX6_note 43 = .ok (.bipush 14, 2) := by decide +kernel
theorem dX6_note_45 : decode cX6_note 45 = .ok (.irem, 1) := by decide +kernel
theorem dX6_note_46 : decode cX6_note 46 = .ok (.putfield 215, 3) := by decide +kernel
theorem dX6_note_49 : decode cX6_note 49 = .ok (.aload_n 0, 1) := by decide +kernel
theorem dX6_note_50 : decode cX6_note 50 = .ok (.aload_n 0, 1) := by decide +kernel
theorem dX6_note_51 : decode cX6_note 51 = .ok (.getfield 192, 3) := by decide +kernel
theorem dX6_note_54 : decode cX6_note 54 = .ok (.bipush 14, 2) := by decide +kernel
theorem dX6_note_56 : decode cX6_note 56 = .ok (.if_icmp .ge 12, 3) := by decide +kernel
theorem dX6_note_59 : decode cX6_note 59 = .ok (.aload_n 0, 1) := by decide +kernel
theorem dX6_note_60 : decode cX6_note 60 = .ok (.getfield 192, 3) := by decide +kernel
theorem dX6_note_63 : decode cX6_note 63 = .ok (.iconst 1, 1) := by decide +kernel
theorem dX6_note_64 : decode cX6_note 64 = .ok (.iadd, 1) := by decide +kernel
theorem dX6_note_65 : decode cX6_note 65 = .ok (.goto 5, 3) := by decide +kernel
theorem dX6_note_68 : decode cX6_note 68 = .ok (.bipush 14, 2) := by decide +kernel
theorem dX6_note_70 : decode cX6_note 70 = .ok (.putfield 192, 3) := by decide +kernel
theorem dX6_note_73 : decode cX6_note 73 = .ok (.return_, 1) := by decide +kernel
theorem dX6_open_0 : decode cX6_open 0 = .ok (.iload_n 1, 1) := by decide +kernel
theorem dX6_open_1 : decode cX6_open 1 = .ok (.i2l, 1) := by decide +kernel
theorem dX6_open_2 : decode cX6_open 2 = .ok (.lconst 0, 1) := by decide +kernel
theorem dX6_open_3 : decode cX6_open 3 = .ok (.ldc2_w 106, 3) := by decide +kernel
theorem dX6_open_6 : decode cX6_open 6 = .ok (.invokestatic 64, 3) := by decide +kernel
theorem dX6_open_9 : decode cX6_open 9 = .ok (.ifCond .ne 6, 3) := by decide +kernel
theorem dX6_open_12 : decode cX6_open 12 = .ok (.bipush (-2), 2) := by decide +kernel
theorem dX6_open_14 : decode cX6_open 14 = .ok (.ireturn, 1) := by decide +kernel
theorem dX6_open_15 : decode cX6_open 15 = .ok (.aload_n 0, 1) := by decide +kernel
theorem dX6_open_16 : decode cX6_open 16 = .ok (.getfield 13, 3) := by decide +kernel
theorem dX6_open_19 : decode cX6_open 19 = .ok (.invokestatic 170, 3) := by decide +kernel
theorem dX6_open_22 : decode cX6_open 22 = .ok (.ifCond .ne 6, 3) := by decide +kernel
theorem dX6_open_25 : decode cX6_open 25 = .ok (.bipush (-3), 2) := by decide +kernel
theorem dX6_open_27 : decode cX6_open 27 = .ok (.ireturn, 1) := by decide +kernel
theorem dX6_open_28 : decode cX6_open 28 = .ok (.aload_n 0, 1) := by decide +kernel
theorem dX6_open_29 : decode cX6_open 29 = .ok (.getfield 13, 3) := by decide +kernel
theorem dX6_open_32 : decode cX6_open 32 = .ok (.bipush 80, 2) := by decide +kernel
theorem dX6_open_34 : decode cX6_open 34 = .ok (.iaload, 1) := by decide +kernel
theorem dX6_open_35 : decode cX6_open 35 = .ok (.bipush 20, 2) := by decide +kernel
theorem dX6_open_37 : decode cX6_open 37 = .ok (.if_icmp .ne 6, 3) := by decide +kernel
theorem dX6_open_40 : decode cX6_open 40 = .ok (.bipush (-4), 2) := by decide +kernel
theorem dX6_open_42 : decode cX6_open 42 = .ok (.ireturn, 1) := by decide +kernel
theorem dX6_open_43 : decode cX6_open 43 = .ok (.aload_n 0, 1) := by decide +kernel
theorem dX6_open_44 : decode cX6_open 44 = .ok (.invokevirtual 218, 3) := by decide +kernel
theorem dX6_open_47 : decode cX6_open 47 = .ok (.aload_n 0, 1) := by decide +kernel
theorem dX6_open_48 : decode cX6_open 48 = .ok (.aload_n 0, 1) := by decide +kernel
theorem dX6_open_49 : decode cX6_open 49 = .ok (.getfield 13, 3) := by decide +kernel
theorem dX6_open_52 : decode cX6_open 52 = .ok (.iload_n 1, 1) := by decide +kernel
theorem dX6_open_53 : decode cX6_open 53 = .ok (.invokevirtual 174, 3) := by decide +kernel
theorem dX6_open_56 : decode cX6_open 56 = .ok (.aload_n 0, 1) := by decide +kernel
theorem dX6_open_57 : decode cX6_open 57 = .ok (.getfield 13, 3) := by decide +kernel
theorem dX6_open_60 : decode cX6_open 60 = .ok (.bipush 80, 2) := by decide +kernel
theorem dX6_open_62 : decode cX6_open 62 = .ok (.iaload, 1) := by decide +kernel
theorem dX6_open_63 : decode cX6_open 63 = .ok (.iconst 1, 1) := by decide +kernel
theorem dX6_open_64 : decode cX6_open 64 = .ok (.isub, 1) := by decide +kernel
theorem dX6_open_65 : decode cX6_open 65 = .ok (.ireturn, 1) := by decide +kernel
theorem dX6_close_0 : decode cX6_close 0 = .ok (.aload_n 0, 1) := by decide +kernel
theorem dX6_close_1 : decode cX6_close 1 = .ok (.getfield 13, 3) := by decide +kernel
theorem dX6_close_4 : decode cX6_close 4 = .ok (.bipush 81, 2) := by decide +kernel
theorem dX6_close_6 : decode cX6_close 6 = .ok (.iaload, 1) := by decide +kernel
theorem dX6_close_7 : decode cX6_close 7 = .ok (.bipush (-9), 2) := by decide +kernel
theorem dX6_close_9 : decode cX6_close 9 = .ok (.if_icmp .ne 6, 3) := by decide +kernel
theorem dX6_close_12 : decode cX6_close 12 = .ok (.bipush (-3), 2) := by decide +kernel
theorem dX6_close_14 : decode cX6_close 14 = .ok (.ireturn, 1) := by decide +kernel
theorem dX6_close_15 : decode cX6_close 15 = .ok (.aload_n 0, 1) := by decide +kernel
theorem dX6_close_16 : decode cX6_close 16 = .ok (.invokevirtual 218, 3) := by decide +kernel
theorem dX6_close_19 : decode cX6_close 19 = .ok (.aload_n 0, 1) := by decide +kernel
theorem dX6_close_20 : decode cX6_close 20 = .ok (.aload_n 0, 1) := by decide +kernel
theorem dX6_close_21 : decode cX6_close 21 = .ok (.getfield 13, 3) := by decide +kernel
theorem dX6_close_24 : decode cX6_close 24 = .ok (.invokevirtual 178, 3) := by decide +kernel
theorem dX6_close_27 : decode cX6_close 27 = .ok (.ireturn, 1) := by decide +kernel
theorem dX6_tell_0 : decode cX6_tell 0 = .ok (.iload_n 1, 1) := by decide +kernel
theorem dX6_tell_1 : decode cX6_tell 1 = .ok (.i2l, 1) := by decide +kernel
theorem dX6_tell_2 : decode cX6_tell 2 = .ok (.lconst 0, 1) := by decide +kernel
theorem dX6_tell_3 : decode cX6_tell 3 = .ok (.ldc2_w 221, 3) := by decide +kernel
theorem dX6_tell_6 : decode cX6_tell 6 = .ok (.invokestatic 64, 3) := by decide +kernel
theorem dX6_tell_9 : decode cX6_tell 9 = .ok (.ifCond .ne 6, 3) := by decide +kernel
theorem dX6_tell_12 : decode cX6_tell 12 = .ok (.bipush (-2), 2) := by decide +kernel
theorem dX6_tell_14 : decode cX6_tell 14 = .ok (.ireturn, 1) := by decide +kernel
theorem dX6_tell_15 : decode cX6_tell 15 = .ok (.aload_n 0, 1) := by decide +kernel
theorem dX6_tell_16 : decode cX6_tell 16 = .ok (.getfield 13, 3) := by decide +kernel
theorem dX6_tell_19 : decode cX6_tell 19 = .ok (.bipush 81, 2) := by decide +kernel
theorem dX6_tell_21 : decode cX6_tell 21 = .ok (.iaload, 1) := by decide +kernel
theorem dX6_tell_22 : decode cX6_tell 22 = .ok (.bipush (-9), 2) := by decide +kernel
theorem dX6_tell_24 : decode cX6_tell 24 = .ok (.if_icmp .ne 6, 3) := by decide +kernel
theorem dX6_tell_27 : decode cX6_tell 27 = .ok (.bipush (-3), 2) := by decide +kernel
theorem dX6_tell_29 : decode cX6_tell 29 = .ok (.ireturn, 1) := by decide +kernel
theorem dX6_tell_30 : decode cX6_tell 30 = .ok (.aload_n 0, 1) := by decide +kernel
theorem dX6_tell_31 : decode cX6_tell 31 = .ok (.invokevirtual 218, 3) := by decide +kernel
theorem dX6_tell_34 : decode cX6_tell 34 = .ok (.aload_n 0, 1) := by decide +kernel
theorem dX6_tell_35 : decode cX6_tell 35 = .ok (.aload_n 0, 1) := by decide +kernel
theorem dX6_tell_36 : decode cX6_tell 36 = .ok (.getfield 13, 3) := by decide +kernel
theorem dX6_tell_39 : decode cX6_tell 39 = .ok (.iload_n 1, 1) := by decide +kernel
theorem dX6_tell_40 : decode cX6_tell 40 = .ok (.invokevirtual 181, 3) := by decide +kernel
theorem dX6_tell_43 : decode cX6_tell 43 = .ok (.ireturn, 1) := by decide +kernel
theorem dX6_tenThousands_0 : decode cX6_tenThousands 0 = .ok (.lconst 1, 1) := by decide +kernel
theorem dX6_tenThousands_1 : decode cX6_tenThousands 1 = .ok (.lstore_n 1, 1) := by decide +kernel
theorem dX6_tenThousands_2 : decode cX6_tenThousands 2 = .ok (.iconst 0, 1) := by decide +kernel
theorem dX6_tenThousands_3 : decode cX6_tenThousands 3 = .ok (.istore_n 3, 1) := by decide +kernel
theorem dX6_tenThousands_4 : decode cX6_tenThousands 4 = .ok (.iload_n 3, 1) := by decide +kernel
theorem dX6_tenThousands_5 : decode cX6_tenThousands 5 = .ok (.iload_n 0, 1) := by decide +kernel
theorem dX6_tenThousands_6 : decode cX6_tenThousands 6 = .ok (.if_icmp .ge 15, 3) := by decide +kernel
theorem dX6_tenThousands_9 : decode cX6_tenThousands 9 = .ok (.lload_n 1, 1) := by decide +kernel
theorem dX6_tenThousands_10 : decode cX6_tenThousands 10 = .ok (.ldc2_w 223, 3) := by decide +kernel
theorem dX6_tenThousands_13 : decode cX6_tenThousands 13 = .ok (.lmul, 1) := by decide +kernel
theorem dX6_tenThousands_14 : decode cX6_tenThousands 14 = .ok (.lstore_n 1, 1) := by decide +kernel
theorem dX6_tenThousands_15 : decode cX6_tenThousands 15 = .ok (.iinc 3 1, 3) := by decide +kernel
theorem dX6_tenThousands_18 : decode cX6_tenThousands 18 = .ok (.goto (-14), 3) := by decide +kernel
theorem dX6_tenThousands_21 : decode cX6_tenThousands 21 = .ok (.lload_n 1, 1) := by decide +kernel
theorem dX6_tenThousands_22 : decode cX6_tenThousands 22 = .ok (.lreturn, 1) := by decide +kernel
theorem dX6_isStep_0 : decode cX6_isStep 0 = .ok (.iload_n 0, 1) := by decide +kernel
theorem dX6_isStep_1 : decode cX6_isStep 1 = .ok (.sipush 1000, 3) := by decide +kernel
theorem dX6_isStep_4 : decode cX6_isStep 4 = .ok (.idiv, 1) := by decide +kernel
theorem dX6_isStep_5 : decode cX6_isStep 5 = .ok (.iconst 2, 1) := by decide +kernel
theorem dX6_isStep_6 : decode cX6_isStep 6 = .ok (.if_icmp .ge 27, 3) := by decide +kernel
theorem dX6_isStep_9 : decode cX6_isStep 9 = .ok (.iload_n 0, 1) := by decide +kernel
theorem dX6_isStep_10 : decode cX6_isStep 10 = .ok (.bipush 100, 2) := by decide +kernel
theorem dX6_isStep_12 : decode cX6_isStep 12 = .ok (.idiv, 1) := by decide +kernel
theorem dX6_isStep_13 : decode cX6_isStep 13 = .ok (.bipush 10, 2) := by decide +kernel
theorem dX6_isStep_15 : decode cX6_isStep 15 = .ok (.irem, 1) := by decide +kernel
theorem dX6_isStep_16 : decode cX6_isStep 16 = .ok (.iconst 5, 1) := by decide +kernel
theorem dX6_isStep_17 : decode cX6_isStep 17 = .ok (.if_icmp .gt 16, 3) := by decide +kernel
theorem dX6_isStep_20 : decode cX6_isStep 20 = .ok (.iload_n 0, 1) := by decide +kernel
theorem dX6_isStep_21 : decode cX6_isStep 21 = .ok (.bipush 100, 2) := by decide +kernel
theorem dX6_isStep_23 : decode cX6_isStep 23 = .ok (.irem, 1) := by decide +kernel
theorem dX6_isStep_24 : decode cX6_isStep 24 = .ok (.bipush 16, 2) := by decide +kernel
theorem dX6_isStep_26 : decode cX6_isStep 26 = .ok (.if_icmp .ge 7, 3) := by decide +kernel
theorem dX6_isStep_29 : decode cX6_isStep 29 = .ok (.iconst 1, 1) := by decide +kernel
theorem dX6_isStep_30 : decode cX6_isStep 30 = .ok (.goto 4, 3) := by decide +kernel
theorem dX6_isStep_33 : decode cX6_isStep 33 = .ok (.iconst 0, 1) := by decide +kernel
theorem dX6_isStep_34 : decode cX6_isStep 34 = .ok (.ireturn, 1) := by decide +kernel
theorem dX6_stepOf_0 : decode cX6_stepOf 0 = .ok (.iload_n 3, 1) := by decide +kernel
theorem dX6_stepOf_1 : decode cX6_stepOf 1 = .ok (.iload_n 2, 1) := by decide +kernel
theorem dX6_stepOf_2 : decode cX6_stepOf 2 = .ok (.if_icmp .ge 21, 3) := by decide +kernel
theorem dX6_stepOf_5 : decode cX6_stepOf 5 = .ok (.lload_n 0, 1) := by decide +kernel
theorem dX6_stepOf_6 : decode cX6_stepOf 6 = .ok (.iload_n 2, 1) := by decide +kernel
theorem dX6_stepOf_7 : decode cX6_stepOf 7 = .ok (.iconst 1, 1) := by decide +kernel
theorem dX6_stepOf_8 : decode cX6_stepOf 8 = .ok (.isub, 1) := by decide +kernel
theorem dX6_stepOf_9 : decode cX6_stepOf 9 = .ok (.iload_n 3, 1) := by decide +kernel
theorem dX6_stepOf_10 : decode cX6_stepOf 10 = .ok (.isub, 1) := by decide +kernel
theorem dX6_stepOf_11 : decode cX6_stepOf 11 = .ok (.invokestatic 225, 3) := by decide +kernel
theorem dX6_stepOf_14 : decode cX6_stepOf 14 = .ok (.ldiv, 1) := by decide +kernel
theorem dX6_stepOf_15 : decode cX6_stepOf 15 = .ok (.ldc2_w 223, 3) := by decide +kernel
theorem dX6_stepOf_18 : decode cX6_stepOf 18 = .ok (.lrem, 1) := by decide +kernel
theorem dX6_stepOf_19 : decode cX6_stepOf 19 = .ok (.l2i, 1) := by decide +kernel
theorem dX6_stepOf_20 : decode cX6_stepOf 20 = .ok (.goto 4, 3) := by decide +kernel
theorem dX6_stepOf_23 : decode cX6_stepOf 23 = .ok (.iconst 0, 1) := by decide +kernel
theorem dX6_stepOf_24 : decode cX6_stepOf 24 = .ok (.ireturn, 1) := by decide +kernel
theorem dX6_ask_0 : decode cX6_ask 0 = .ok (.iload_n 1, 1) := by decide +kernel
theorem dX6_ask_1 : decode cX6_ask 1 = .ok (.i2l, 1) := by decide +kernel
theorem dX6_ask_2 : decode cX6_ask 2 = .ok (.lconst 1, 1) := by decide +kernel
theorem dX6_ask_3 : decode cX6_ask 3 = .ok (.ldc2_w 106, 3) := by decide +kernel
theorem dX6_ask_6 : decode cX6_ask 6 = .ok (.invokestatic 64, 3) := by decide +kernel
theorem dX6_ask_9 : decode cX6_ask 9 = .ok (.ifCond .eq 17, 3) := by decide +kernel
theorem dX6_ask_12 : decode cX6_ask 12 = .ok (.lload_n 2, 1) := by decide +kernel
theorem dX6_ask_13 : decode cX6_ask 13 = .ok (.lconst 0, 1) := by decide +kernel
theorem dX6_ask_14 : decode cX6_ask 14 = .ok (.iload_n 1, 1) := by decide +kernel
theorem dX6_ask_15 : decode cX6_ask 15 = .ok (.invokestatic 225, 3) := by decide +kernel
theorem dX6_ask_18 : decode cX6_ask 18 = .ok (.lconst 1, 1) := by decide +kernel
theorem dX6_ask_19 : decode cX6_ask 19 = .ok (.lsub, 1) := by decide +kernel
theorem dX6_ask_20 : decode cX6_ask 20 = .ok (.invokestatic 64, 3) := by decide +kernel
theorem dX6_ask_23 : decode cX6_ask 23 = .ok (.ifCond .ne 6, 3) := by decide +kernel
theorem dX6_ask_26 : decode cX6_ask 26 = .ok (.bipush (-2), 2) := by decide +kernel
theorem dX6_ask_28 : decode cX6_ask 28 = .ok (.ireturn, 1) := by decide +kernel
theorem dX6_ask_29 : decode cX6_ask 29 = .ok (.iconst 0, 1) := by decide +kernel
theorem dX6_ask_30 : decode cX6_ask 30 = .ok (.istore 4, 2) := by decide +kernel
theorem dX6_ask_32 : decode cX6_ask 32 = .ok (.iload 4, 2) := by decide +kernel
theorem dX6_ask_34 : decode cX6_ask 34 = .ok (.iload_n 1, 1) := by decide +kernel
theorem dX6_ask_35 : decode cX6_ask 35 = .ok (.if_icmp .ge 25, 3) := by decide +kernel
theorem dX6_ask_38 : decode cX6_ask 38 = .ok (.lload_n 2, 1) := by decide +kernel
theorem dX6_ask_39 : decode cX6_ask 39 = .ok (.iload_n 1, 1) := by decide +kernel
theorem dX6_ask_40 : decode cX6_ask 40 = .ok (.iload 4, 2) := by decide +kernel
theorem dX6_ask_42 : decode cX6_ask 42 = .ok (.invokestatic 229, 3) := by decide +kernel
theorem dX6_ask_45 : decode cX6_ask 45 = .ok (.invokestatic 233, 3) := by decide +kernel
theorem dX6_ask_48 : decode cX6_ask 48 = .ok (.ifCond .ne 6, 3) := by decide +kernel
theorem dX6_ask_51 : decode cX6_ask 51 = .ok (.bipush (-2), 2) := by decide +kernel
theorem dX6_ask_53 : decode cX6_ask 53 = .ok (.ireturn, 1) := by decide +kernel
theorem dX6_ask_54 : decode cX6_ask 54 = .ok (.iinc 4 1, 3) := by decide +kernel
theorem dX6_ask_57 : decode cX6_ask 57 = .ok (.goto (-25), 3) := by decide +kernel
theorem dX6_ask_60 : decode cX6_ask 60 = .ok (.aload_n 0, 1) := by decide +kernel
theorem dX6_ask_61 : decode cX6_ask 61 = .ok (.getfield 13, 3) := by decide +kernel
theorem dX6_ask_64 : decode cX6_ask 64 = .ok (.bipush 83, 2) := by decide +kernel
theorem dX6_ask_66 : decode cX6_ask 66 = .ok (.iaload, 1) := by decide +kernel
theorem dX6_ask_67 : decode cX6_ask 67 = .ok (.iconst 5, 1) := by decide +kernel
theorem dX6_ask_68 : decode cX6_ask 68 = .ok (.if_icmp .ne 6, 3) := by decide +kernel
theorem dX6_ask_71 : decode cX6_ask 71 = .ok (.bipush (-4), 2) := by decide +kernel
theorem dX6_ask_73 : decode cX6_ask 73 = .ok (.ireturn, 1) := by decide +kernel
theorem dX6_ask_74 : decode cX6_ask 74 = .ok (.aload_n 0, 1) := by decide +kernel
theorem dX6_ask_75 : decode cX6_ask 75 = .ok (.invokevirtual 218, 3) := by decide +kernel
theorem dX6_ask_78 : decode cX6_ask 78 = .ok (.aload_n 0, 1) := by decide +kernel
theorem dX6_ask_79 : decode cX6_ask 79 = .ok (.aload_n 0, 1) := by decide +kernel
theorem dX6_ask_80 : decode cX6_ask 80 = .ok (.getfield 13, 3) := by decide +kernel
theorem dX6_ask_83 : decode cX6_ask 83 = .ok (.iload_n 1, 1) := by decide +kernel
theorem dX6_ask_84 : decode cX6_ask 84 = .ok (.lload_n 2, 1) := by decide +kernel
theorem dX6_ask_85 : decode cX6_ask 85 = .ok (.iload_n 1, 1) := by decide +kernel
theorem dX6_ask_86 : decode cX6_ask 86 = .ok (.iconst 0, 1) := by decide +kernel
theorem dX6_ask_87 : decode cX6_ask 87 = .ok (.invokestatic 229, 3) := by decide +kernel
theorem dX6_ask_90 : decode cX6_ask 90 = .ok (.lload_n 2, 1) := by decide +kernel
theorem dX6_ask_91 : decode cX6_ask 91 = .ok (.iload_n 1, 1) := by decide +kernel
theorem dX6_ask_92 : decode cX6_ask 92 = .ok (.iconst 1, 1) := by decide +kernel
theorem dX6_ask_93 : decode cX6_ask 93 = .ok (.invokestatic 229, 3) := by decide +kernel
theorem dX6_ask_96 : decode cX6_ask 96 = .ok (.lload_n 2, 1) := by decide +kernel
theorem dX6_ask_97 : decode cX6_ask 97 = .ok (.iload_n 1, 1) := by decide +kernel
theorem dX6_ask_98 : decode cX6_ask 98 = .ok (.iconst 2, 1) := by decide +kernel
theorem dX6_ask_99 : decode cX6_ask 99 = .ok (.invokestatic 229, 3) := by decide +kernel
theorem dX6_ask_102 : decode cX6_ask 102 = .ok (.lload_n 2, 1) := by decide +kernel
theorem dX6_ask_103 : decode cX6_ask 103 = .ok (.iload_n 1, 1) := by decide +kernel
theorem dX6_ask_104 : decode cX6_ask 104 = .ok (.iconst 3, 1) := by decide +kernel
theorem dX6_ask_105 : decode cX6_ask 105 = .ok (.invokestatic 229, 3) := by decide +kernel
theorem dX6_ask_108 : decode cX6_ask 108 = .ok (.invokevirtual 184, 3) := by decide +kernel
theorem dX6_ask_111 : decode cX6_ask 111 = .ok (.aload_n 0, 1) := by decide +kernel
theorem dX6_ask_112 : decode cX6_ask 112 = .ok (.getfield 13, 3) := by decide +kernel
theorem dX6_ask_115 : decode cX6_ask 115 = .ok (.bipush 83, 2) := by decide +kernel
theorem dX6_ask_117 : decode cX6_ask 117 = .ok (.iaload, 1) := by decide +kernel
theorem dX6_ask_118 : decode cX6_ask 118 = .ok (.iconst 1, 1) := by decide +kernel
theorem dX6_ask_119 : decode cX6_ask 119 = .ok (.isub, 1) := by decide +kernel
theorem dX6_ask_120 : decode cX6_ask 120 = .ok (.ireturn, 1) := by decide +kernel
theorem dX6_drop_0 : decode cX6_drop 0 = .ok (.aload_n 0, 1) := by decide +kernel
theorem dX6_drop_1 : decode cX6_drop 1 = .ok (.getfield 13, 3) := by decide +kernel
theorem dX6_drop_4 : decode cX6_drop 4 = .ok (.bipush 83, 2) := by decide +kernel
theorem dX6_drop_6 : decode cX6_drop 6 = .ok (.iaload, 1) := by decide +kernel
theorem dX6_drop_7 : decode cX6_drop 7 = .ok (.ifCond .ne 6, 3) := by decide +kernel
theorem dX6_drop_10 : decode cX6_drop 10 = .ok (.bipush (-3), 2) := by decide +kernel
theorem dX6_drop_12 : decode cX6_drop 12 = .ok (.ireturn, 1) := by decide +kernel
theorem dX6_drop_13 : decode cX6_drop 13 = .ok (.aload_n 0, 1) := by decide +kernel
theorem dX6_drop_14 : decode cX6_drop 14 = .ok (.invokevirtual 218, 3) := by decide +kernel
theorem dX6_drop_17 : decode cX6_drop 17 = .ok (.aload_n 0, 1) := by decide +kernel
theorem dX6_drop_18 : decode cX6_drop 18 = .ok (.getfield 13, 3) := by decide +kernel
theorem dX6_drop_21 : decode cX6_drop 21 = .ok (.bipush 83, 2) := by decide +kernel
theorem dX6_drop_23 : decode cX6_drop 23 = .ok (.dup2, 1) := by decide +kernel
theorem dX6_drop_24 : decode cX6_drop 24 = .ok (.iaload, 1) := by decide +kernel
theorem dX6_drop_25 : decode cX6_drop 25 = .ok (.iconst 1, 1) := by decide +kernel
theorem dX6_drop_26 : decode cX6_drop 26 = .ok (.isub, 1) := by decide +kernel
theorem dX6_drop_27 : decode cX6_drop 27 = .ok (.iastore, 1) := by decide +kernel
theorem dX6_drop_28 : decode cX6_drop 28 = .ok (.aload_n 0, 1) := by decide +kernel
theorem dX6_drop_29 : decode cX6_drop 29 = .ok (.getfield 13, 3) := by decide +kernel
theorem dX6_drop_32 : decode cX6_drop 32 = .ok (.bipush 83, 2) := by decide +kernel
theorem dX6_drop_34 : decode cX6_drop 34 = .ok (.iaload, 1) := by decide +kernel
theorem dX6_drop_35 : decode cX6_drop 35 = .ok (.ireturn, 1) := by decide +kernel
theorem dX6_undo_0 : decode cX6_undo 0 = .ok (.aload_n 0, 1) := by decide +kernel
theorem dX6_undo_1 : decode cX6_undo 1 = .ok (.getfield 192, 3) := by decide +kernel
theorem dX6_undo_4 : decode cX6_undo 4 = .ok (.ifCond .ne 6, 3) := by decide +kernel
theorem dX6_undo_7 : decode cX6_undo 7 = .ok (.bipush (-3), 2) := by decide +kernel
theorem dX6_undo_9 : decode cX6_undo 9 = .ok (.ireturn, 1) := by decide +kernel
theorem dX6_undo_10 : decode cX6_undo 10 = .ok (.aload_n 0, 1) := by decide +kernel
theorem dX6_undo_11 : decode cX6_undo 11 = .ok (.dup, 1) := by decide +kernel
theorem dX6_undo_12 : decode cX6_undo 12 = .ok (.getfield 192, 3) := by decide +kernel
theorem dX6_undo_15 : decode cX6_undo 15 = .ok (.iconst 1, 1) := by decide +kernel
theorem dX6_undo_16 : decode cX6_undo 16 = .ok (.isub, 1) := by decide +kernel
theorem dX6_undo_17 : decode cX6_undo 17 = .ok (.putfield 192, 3) := by decide +kernel
theorem dX6_undo_20 : decode cX6_undo 20 = .ok (.aload_n 0, 1) := by decide +kernel
theorem dX6_undo_21 : decode cX6_undo 21 = .ok (.aload_n 0, 1) := by decide +kernel
theorem dX6_undo_22 : decode cX6_undo 22 = .ok (.getfield 215, 3) := by decide +kernel
theorem dX6_undo_25 : decode cX6_undo 25 = .ok (.bipush 14, 2) := by decide +kernel
theorem dX6_undo_27 : decode cX6_undo 27 = .ok (.iadd, 1) := by decide +kernel
theorem dX6_undo_28 : decode cX6_undo 28 = .ok (.iconst 1, 1) := by decide +kernel
theorem dX6_undo_29 : decode cX6_undo 29 = .ok (.isub, 1) := by decide +kernel
theorem dX6_undo_30 : decode cX6_undo 30 = .ok (.bipush 14, 2) := by decide +kernel
theorem dX6_undo_32 : decode cX6_undo 32 = .ok (.irem, 1) := by decide +kernel
theorem dX6_undo_33 : decode cX6_undo 33 = .ok (.putfield 215, 3) := by decide +kernel
theorem dX6_undo_36 : decode cX6_undo 36 = .ok (.iconst 0, 1) := by decide +kernel
theorem dX6_undo_37 : decode cX6_undo 37 = .ok (.istore_n 1, 1) := by decide +kernel
theorem dX6_undo_38 : decode cX6_undo 38 = .ok (.iload_n 1, 1) := by decide +kernel
theorem dX6_undo_39 : decode cX6_undo 39 = .ok (.sipush 214, 3) := by decide +kernel
theorem dX6_undo_42 : decode cX6_undo 42 = .ok (.if_icmp .ge 30, 3) := by decide +kernel
theorem dX6_undo_45 : decode cX6_undo 45 = .ok (.aload_n 0, 1) := by decide +kernel
theorem dX6_undo_46 : decode cX6_undo 46 = .ok (.getfield 13, 3) := by decide +kernel
theorem dX6_undo_49 : decode cX6_undo 49 = .ok (.iload_n 1, 1) := by decide +kernel
theorem dX6_undo_50 : decode cX6_undo 50 = .ok (.aload_n 0, 1) := by decide +kernel
theorem dX6_undo_51 : decode cX6_undo 51 = .ok (.getfield 19, 3) := by decide +kernel
theorem dX6_undo_54 : decode cX6_undo 54 = .ok (.sipush 214, 3) := by decide +kernel
theorem dX6_undo_57 : decode cX6_undo 57 = .ok (.aload_n 0, 1) := by decide +kernel
theorem dX6_undo_58 : decode cX6_undo 58 = .ok (.getfield 215, 3) := by decide +kernel
theorem dX6_undo_61 : decode cX6_undo 61 = .ok (.imul, 1) := by decide +kernel
theorem dX6_undo_62 : decode cX6_undo 62 = .ok (.iload_n 1, 1) := by decide +kernel
theorem dX6_undo_63 : decode cX6_undo 63 = .ok (.iadd, 1) := by decide +kernel
theorem dX6_undo_64 : decode cX6_undo 64 = .ok (.iaload, 1) := by decide +kernel
theorem dX6_undo_65 : decode cX6_undo 65 = .ok (.iastore, 1) := by decide +kernel
theorem dX6_undo_66 : decode cX6_undo 66 = .ok (.iinc 1 1, 3) := by decide +kernel
theorem dX6_undo_69 : decode cX6_undo 69 = .ok (.goto (-31), 3) := by decide +kernel
theorem dX6_undo_72 : decode cX6_undo 72 = .ok (.aload_n 0, 1) := by decide +kernel
theorem dX6_undo_73 : decode cX6_undo 73 = .ok (.getfield 192, 3) := by decide +kernel
theorem dX6_undo_76 : decode cX6_undo 76 = .ok (.ireturn, 1) := by decide +kernel
theorem dX6_within_0 : decode cX6_within 0 = .ok (.aload_n 0, 1) := by decide +kernel
theorem dX6_within_1 : decode cX6_within 1 = .ok (.iload_n 1, 1) := by decide +kernel
theorem dX6_within_2 : decode cX6_within 2 = .ok (.invokevirtual 208, 3) := by decide +kernel
theorem dX6_within_5 : decode cX6_within 5 = .ok (.ifCond .eq 11, 3) := by decide +kernel
theorem dX6_within_8 : decode cX6_within 8 = .ok (.aload_n 0, 1) := by decide +kernel
theorem dX6_within_9 : decode cX6_within 9 = .ok (.iload_n 2, 1) := by decide +kernel
theorem dX6_within_10 : decode cX6_within 10 = .ok (.invokevirtual 208, 3) := by decide +kernel
theorem dX6_within_13 : decode cX6_within 13 = .ok (.ifCond .ne 5, 3) := by decide +kernel
theorem dX6_within_16 : decode cX6_within 16 = .ok (.iconst (-1), 1) := by decide +kernel
theorem dX6_within_17 : decode cX6_within 17 = .ok (.ireturn, 1) := by decide +kernel
theorem dX6_within_18 : decode cX6_within 18 = .ok (.aload_n 0, 1) := by decide +kernel
theorem dX6_within_19 : decode cX6_within 19 = .ok (.aload_n 0, 1) := by decide +kernel
theorem dX6_within_20 : decode cX6_within 20 = .ok (.getfield 13, 3) := by decide +kernel
theorem dX6_within_23 : decode cX6_within 23 = .ok (.iload_n 1, 1) := by decide +kernel
theorem dX6_within_24 : decode cX6_within 24 = .ok (.invokevirtual 144, 3) := by decide +kernel
theorem dX6_within_27 : decode cX6_within 27 = .ok (.aload_n 0, 1) := by decide +kernel
theorem dX6_within_28 : decode cX6_within 28 = .ok (.aload_n 0, 1) := by decide +kernel
theorem dX6_within_29 : decode cX6_within 29 = .ok (.getfield 13, 3) := by decide +kernel
theorem dX6_within_32 : decode cX6_within 32 = .ok (.iload_n 2, 1) := by decide +kernel
theorem dX6_within_33 : decode cX6_within 33 = .ok (.invokevirtual 144, 3) := by decide +kernel
theorem dX6_within_36 : decode cX6_within 36 = .ok (.iconst (-1), 1) := by decide +kernel
theorem dX6_within_37 : decode cX6_within 37 = .ok (.ixor, 1) := by decide +kernel
theorem dX6_within_38 : decode cX6_within 38 = .ok (.iand, 1) := by decide +kernel
theorem dX6_within_39 : decode cX6_within 39 = .ok (.ifCond .ne 7, 3) := by decide +kernel
theorem dX6_within_42 : decode cX6_within 42 = .ok (.iconst 1, 1) := by decide +kernel
theorem dX6_within_43 : decode cX6_within 43 = .ok (.goto 4, 3) := by decide +kernel
theorem dX6_within_46 : decode cX6_within 46 = .ok (.iconst 0, 1) := by decide +kernel
theorem dX6_within_47 : decode cX6_within 47 = .ok (.ireturn, 1) := by decide +kernel
theorem dX6_judged_0 : decode cX6_judged 0 = .ok (.iload_n 1, 1) := by decide +kernel
theorem dX6_judged_1 : decode cX6_judged 1 = .ok (.tableswitch 237 1 7 #[43, 70, 97, 122, 152, 182, 209], 43) := by decide +kernel
theorem dX6_judged_44 : decode cX6_judged 44 = .ok (.iload_n 2, 1) := by decide +kernel
theorem dX6_judged_45 : decode cX6_judged 45 = .ok (.ifCond .ne 24, 3) := by decide +kernel
theorem dX6_judged_48 : decode cX6_judged 48 = .ok (.iload_n 3, 1) := by decide +kernel
theorem dX6_judged_49 : decode cX6_judged 49 = .ok (.iconst 5, 1) := by decide +kernel
theorem dX6_judged_50 : decode cX6_judged 50 = .ok (.if_icmp .ge 19, 3) := by decide +kernel
theorem dX6_judged_53 : decode cX6_judged 53 = .ok (.aload_n 0, 1) := by decide +kernel
theorem dX6_judged_54 : decode cX6_judged 54 = .ok (.aload_n 0, 1) := by decide +kernel
theorem dX6_judged_55 : decode cX6_judged 55 = .ok (.getfield 16, 3) := by decide +kernel
theorem dX6_judged_58 : decode cX6_judged 58 = .ok (.iload_n 3, 1) := by decide +kernel
theorem dX6_judged_59 : decode cX6_judged 59 = .ok (.invokevirtual 188, 3) := by decide +kernel
theorem dX6_judged_62 : decode cX6_judged 62 = .ok (.ifCond .eq 7, 3) := by decide +kernel
theorem dX6_judged_65 : decode cX6_judged 65 = .ok (.iconst 1, 1) := by decide +kernel
theorem dX6_judged_66 : decode cX6_judged 66 = .ok (.goto 4, 3) := by decide +kernel
theorem dX6_judged_69 : decode cX6_judged 69 = .ok (.iconst 0, 1) := by decide +kernel
theorem dX6_judged_70 : decode cX6_judged 70 = .ok (.ireturn, 1) := by decide +kernel
theorem dX6_judged_71 : decode cX6_judged 71 = .ok (.iload_n 2, 1) := by decide +kernel
theorem dX6_judged_72 : decode cX6_judged 72 = .ok (.ifCond .ne 24, 3) := by decide +kernel
theorem dX6_judged_75 : decode cX6_judged 75 = .ok (.iload_n 3, 1) := by decide +kernel
theorem dX6_judged_76 : decode cX6_judged 76 = .ok (.ifCond .ne 20, 3) := by decide +kernel
theorem dX6_judged_79 : decode cX6_judged 79 = .ok (.aload_n 0, 1) := by decide +kernel
theorem dX6_judged_80 : decode cX6_judged 80 = .ok (.aload_n 0, 1) := by decide +kernel
theorem dX6_judged_81 : decode cX6_judged 81 = .ok (.getfield 16, 3) := by decide +kernel
theorem dX6_judged_84 : decode cX6_judged 84 = .ok (.bipush 10, 2) := by decide +kernel
theorem dX6_judged_86 : decode cX6_judged 86 = .ok (.invokevirtual 188, 3) := by decide +kernel
theorem dX6_judged_89 : decode cX6_judged 89 = .ok (.ifCond .eq 7, 3) := by decide +kernel
theorem dX6_judged_92 : decode cX6_judged 92 = .ok (.iconst 1, 1) := by decide +kernel
theorem dX6_judged_93 : decode cX6_judged 93 = .ok (.goto 4, 3) := by decide +kernel
theorem dX6_judged_96 : decode cX6_judged 96 = .ok (.iconst 0, 1) := by decide +kernel
theorem dX6_judged_97 : decode cX6_judged 97 = .ok (.ireturn, 1) := by decide +kernel
theorem dX6_judged_98 : decode cX6_judged 98 = .ok (.iload_n 2, 1) := by decide +kernel
theorem dX6_judged_99 : decode cX6_judged 99 = .ok (.ifCond .ne 22, 3) := by decide +kernel
theorem dX6_judged_102 : decode cX6_judged 102 = .ok (.aload_n 0, 1) := by decide +kernel
theorem dX6_judged_103 : decode cX6_judged 103 = .ok (.aload_n 0, 1) := by decide +kernel
theorem dX6_judged_104 : decode cX6_judged 104 = .ok (.getfield 16, 3) := by decide +kernel
theorem dX6_judged_107 : decode cX6_judged 107 = .ok (.bipush 20, 2) := by decide +kernel
theorem dX6_judged_109 : decode cX6_judged 109 = .ok (.iload_n 3, 1) := by decide +kernel
theorem dX6_judged_110 : decode cX6_judged 110 = .ok (.iadd, 1) := by decide +kernel
theorem dX6_judged_111 : decode cX6_judged 111 = .ok (.invokevirtual 188, 3) := by decide +kernel
theorem dX6_judged_114 : decode cX6_judged 114 = .ok (.ifCond .eq 7, 3) := by decide +kernel
theorem dX6_judged_117 : decode cX6_judged 117 = .ok (.iconst 1, 1) := by decide +kernel
theorem dX6_judged_118 : decode cX6_judged 118 = .ok (.goto 4, 3) := by decide +kernel
theorem dX6_judged_121 : decode cX6_judged 121 = .ok (.iconst 0, 1) := by decide +kernel
theorem dX6_judged_122 : decode cX6_judged 122 = .ok (.ireturn, 1) := by decide +kernel
theorem dX6_judged_123 : decode cX6_judged 123 = .ok (.aload_n 0, 1) := by decide +kernel
theorem dX6_judged_124 : decode cX6_judged 124 = .ok (.iload_n 2, 1) := by decide +kernel
theorem dX6_judged_125 : decode cX6_judged 125 = .ok (.invokevirtual 208, 3) := by decide +kernel
theorem dX6_judged_128 : decode cX6_judged 128 = .ok (.ifCond .eq 23, 3) := by decide +kernel
theorem dX6_judged_131 : decode cX6_judged 131 = .ok (.aload_n 0, 1) := by decide +kernel
theorem dX6_judged_132 : decode cX6_judged 132 = .ok (.aload_n 0, 1) := by decide +kernel
theorem dX6_judged_133 : decode cX6_judged 133 = .ok (.getfield 16, 3) := by decide +kernel
theorem dX6_judged_136 : decode cX6_judged 136 = .ok (.iload_n 2, 1) := by decide +kernel
theorem dX6_judged_137 : decode cX6_judged 137 = .ok (.invokevirtual 144, 3) := by decide +kernel
theorem dX6_judged_140 : decode cX6_judged 140 = .ok (.invokestatic 153, 3) := by decide +kernel
theorem dX6_judged_143 : decode cX6_judged 143 = .ok (.iload_n 3, 1) := by decide +kernel
theorem dX6_judged_144 : decode cX6_judged 144 = .ok (.if_icmp .ne 7, 3) := by decide +kernel
theorem dX6_judged_147 : decode cX6_judged 147 = .ok (.iconst 1, 1) := by decide +kernel
theorem dX6_judged_148 : decode cX6_judged 148 = .ok (.goto 4, 3) := by decide +kernel
theorem dX6_judged_151 : decode cX6_judged 151 = .ok (.iconst 0, 1) := by decide +kernel
theorem dX6_judged_152 : decode cX6_judged 152 = .ok (.ireturn, 1) := by decide +kernel
theorem dX6_judged_153 : decode cX6_judged 153 = .ok (.aload_n 0, 1) := by decide +kernel
theorem dX6_judged_154 : decode cX6_judged 154 = .ok (.iload_n 2, 1) := by decide +kernel
theorem dX6_judged_155 : decode cX6_judged 155 = .ok (.invokevirtual 208, 3) := by decide +kernel
theorem dX6_judged_158 : decode cX6_judged 158 = .ok (.ifCond .eq 23, 3) := by decide +kernel
theorem dX6_judged_161 : decode cX6_judged 161 = .ok (.aload_n 0, 1) := by decide +kernel
theorem dX6_judged_162 : decode cX6_judged 162 = .ok (.aload_n 0, 1) := by decide +kernel
theorem dX6_judged_163 : decode cX6_judged 163 = .ok (.getfield 16, 3) := by decide +kernel
theorem dX6_judged_166 : decode cX6_judged 166 = .ok (.iload_n 2, 1) := by decide +kernel
theorem dX6_judged_167 : decode cX6_judged 167 = .ok (.invokevirtual 150, 3) := by decide +kernel
theorem dX6_judged_170 : decode cX6_judged 170 = .ok (.invokestatic 153, 3) := by decide +kernel
theorem dX6_judged_173 : decode cX6_judged 173 = .ok (.iload_n 3, 1) := by decide +kernel
theorem dX6_judged_174 : decode cX6_judged 174 = .ok (.if_icmp .ne 7, 3) := by decide +kernel
theorem dX6_judged_177 : decode cX6_judged 177 = .ok (.iconst 1, 1) := by decide +kernel
theorem dX6_judged_178 : decode cX6_judged 178 = .ok (.goto 4, 3) := by decide +kernel
theorem dX6_judged_181 : decode cX6_judged 181 = .ok (.iconst 0, 1) := by decide +kernel
theorem dX6_judged_182 : decode cX6_judged 182 = .ok (.ireturn, 1) := by decide +kernel
theorem dX6_judged_183 : decode cX6_judged 183 = .ok (.aload_n 0, 1) := by decide +kernel
theorem dX6_judged_184 : decode cX6_judged 184 = .ok (.iload_n 2, 1) := by decide +kernel
theorem dX6_judged_185 : decode cX6_judged 185 = .ok (.invokevirtual 208, 3) := by decide +kernel
theorem dX6_judged_188 : decode cX6_judged 188 = .ok (.ifCond .eq 20, 3) := by decide +kernel
theorem dX6_judged_191 : decode cX6_judged 191 = .ok (.aload_n 0, 1) := by decide +kernel
theorem dX6_judged_192 : decode cX6_judged 192 = .ok (.aload_n 0, 1) := by decide +kernel
theorem dX6_judged_193 : decode cX6_judged 193 = .ok (.getfield 16, 3) := by decide +kernel
theorem dX6_judged_196 : decode cX6_judged 196 = .ok (.iload_n 2, 1) := by decide +kernel
theorem dX6_judged_197 : decode cX6_judged 197 = .ok (.invokevirtual 157, 3) := by decide +kernel
theorem dX6_judged_200 : decode cX6_judged 200 = .ok (.iload_n 3, 1) := by decide +kernel
theorem dX6_judged_201 : decode cX6_judged 201 = .ok (.if_icmp .ne 7, 3) := by decide +kernel
theorem dX6_judged_204 : decode cX6_judged 204 = .ok (.iconst 1, 1) := by decide +kernel
theorem dX6_judged_205 : decode cX6_judged 205 = .ok (.goto 4, 3) := by decide +kernel
theorem dX6_judged_208 : decode cX6_judged 208 = .ok (.iconst 0, 1) := by decide +kernel
theorem dX6_judged_209 : decode cX6_judged 209 = .ok (.ireturn, 1) := by decide +kernel
theorem dX6_judged_210 : decode cX6_judged 210 = .ok (.iload_n 2, 1) := by decide +kernel
theorem dX6_judged_211 : decode cX6_judged 211 = .ok (.ifCond .ne 25, 3) := by decide +kernel
theorem dX6_judged_214 : decode cX6_judged 214 = .ok (.aload_n 0, 1) := by decide +kernel
theorem dX6_judged_215 : decode cX6_judged 215 = .ok (.getfield 16, 3) := by decide +kernel
theorem dX6_judged_218 : decode cX6_judged 218 = .ok (.aload_n 0, 1) := by decide +kernel
theorem dX6_judged_219 : decode cX6_judged 219 = .ok (.getfield 16, 3) := by decide +kernel
theorem dX6_judged_222 : decode cX6_judged 222 = .ok (.bipush 81, 2) := by decide +kernel
theorem dX6_judged_224 : decode cX6_judged 224 = .ok (.iaload, 1) := by decide +kernel
theorem dX6_judged_225 : decode cX6_judged 225 = .ok (.invokestatic 163, 3) := by decide +kernel
theorem dX6_judged_228 : decode cX6_judged 228 = .ok (.iload_n 3, 1) := by decide +kernel
theorem dX6_judged_229 : decode cX6_judged 229 = .ok (.if_icmp .ne 7, 3) := by decide +kernel
theorem dX6_judged_232 : decode cX6_judged 232 = .ok (.iconst 1, 1) := by decide +kernel
theorem dX6_judged_233 : decode cX6_judged 233 = .ok (.goto 4, 3) := by decide +kernel
theorem dX6_judged_236 : decode cX6_judged 236 = .ok (.iconst 0, 1) := by decide +kernel
theorem dX6_judged_237 : decode cX6_judged 237 = .ok (.ireturn, 1) := by decide +kernel
theorem dX6_judged_238 : decode cX6_judged 238 = .ok (.iconst 0, 1) := by decide +kernel
theorem dX6_judged_239 : decode cX6_judged 239 = .ok (.ireturn, 1) := by decide +kernel
theorem dX6_thousands_0 : decode cX6_thousands 0 = .ok (.lconst 1, 1) := by decide +kernel
theorem dX6_thousands_1 : decode cX6_thousands 1 = .ok (.lstore_n 1, 1) := by decide +kernel
theorem dX6_thousands_2 : decode cX6_thousands 2 = .ok (.iconst 0, 1) := by decide +kernel
theorem dX6_thousands_3 : decode cX6_thousands 3 = .ok (.istore_n 3, 1) := by decide +kernel
theorem dX6_thousands_4 : decode cX6_thousands 4 = .ok (.iload_n 3, 1) := by decide +kernel
theorem dX6_thousands_5 : decode cX6_thousands 5 = .ok (.iload_n 0, 1) := by decide +kernel
theorem dX6_thousands_6 : decode cX6_thousands 6 = .ok (.if_icmp .ge 15, 3) := by decide +kernel
theorem dX6_thousands_9 : decode cX6_thousands 9 = .ok (.lload_n 1, 1) := by decide +kernel
theorem dX6_thousands_10 : decode cX6_thousands 10 = .ok (.ldc2_w 236, 3) := by decide +kernel
theorem dX6_thousands_13 : decode cX6_thousands 13 = .ok (.lmul, 1) := by decide +kernel
theorem dX6_thousands_14 : decode cX6_thousands 14 = .ok (.lstore_n 1, 1) := by decide +kernel
theorem dX6_thousands_15 : decode cX6_thousands 15 = .ok (.iinc 3 1, 3) := by decide +kernel
theorem dX6_thousands_18 : decode cX6_thousands 18 = .ok (.goto (-14), 3) := by decide +kernel
theorem dX6_thousands_21 : decode cX6_thousands 21 = .ok (.lload_n 1, 1) := by decide +kernel
theorem dX6_thousands_22 : decode cX6_thousands 22 = .ok (.lreturn, 1) := by decide +kernel
theorem dX6_judge_0 : decode cX6_judge 0 = .ok (.iload_n 1, 1) := by decide +kernel
theorem dX6_judge_1 : decode cX6_judge 1 = .ok (.i2l, 1) := by decide +kernel
theorem dX6_judge_2 : decode cX6_judge 2 = .ok (.lconst 1, 1) := by decide +kernel
theorem dX6_judge_3 : decode cX6_judge 3 = .ok (.ldc2_w 106, 3) := by decide +kernel
theorem dX6_judge_6 : decode cX6_judge 6 = .ok (.invokestatic 64, 3) := by decide +kernel
theorem dX6_judge_9 : decode cX6_judge 9 = .ok (.ifCond .eq 17, 3) := by decide +kernel
theorem dX6_judge_12 : decode cX6_judge 12 = .ok (.lload_n 2, 1) := by decide +kernel
theorem dX6_judge_13 : decode cX6_judge 13 = .ok (.lconst 0, 1) := by decide +kernel
theorem dX6_judge_14 : decode cX6_judge 14 = .ok (.iload_n 1, 1) := by decide +kernel
theorem dX6_judge_15 : decode cX6_judge 15 = .ok (.invokestatic 238, 3) := by decide +kernel
theorem dX6_judge_18 : decode cX6_judge 18 = .ok (.lconst 1, 1) := by decide +kernel
theorem dX6_judge_19 : decode cX6_judge 19 = .ok (.lsub, 1) := by decide +kernel
theorem dX6_judge_20 : decode cX6_judge 20 = .ok (.invokestatic 64, 3) := by decide +kernel
theorem dX6_judge_23 : decode cX6_judge 23 = .ok (.ifCond .ne 6, 3) := by decide +kernel
theorem dX6_judge_26 : decode cX6_judge 26 = .ok (.bipush (-2), 2) := by decide +kernel
theorem dX6_judge_28 : decode cX6_judge 28 = .ok (.ireturn, 1) := by decide +kernel
theorem dX6_judge_29 : decode cX6_judge 29 = .ok (.aload_n 0, 1) := by decide +kernel
theorem dX6_judge_30 : decode cX6_judge 30 = .ok (.getfield 13, 3) := by decide +kernel
theorem dX6_judge_33 : decode cX6_judge 33 = .ok (.aload_n 0, 1) := by decide +kernel
theorem dX6_judge_34 : decode cX6_judge 34 = .ok (.getfield 16, 3) := by decide +kernel
theorem dX6_judge_37 : decode cX6_judge 37 = .ok (.invokestatic 211, 3) := by decide +kernel
theorem dX6_judge_40 : decode cX6_judge 40 = .ok (.iconst 0, 1) := by decide +kernel
theorem dX6_judge_41 : decode cX6_judge 41 = .ok (.istore 4, 2) := by decide +kernel
theorem dX6_judge_43 : decode cX6_judge 43 = .ok (.iload 4, 2) := by decide +kernel
theorem dX6_judge_45 : decode cX6_judge 45 = .ok (.iload_n 1, 1) := by decide +kernel
theorem dX6_judge_46 : decode cX6_judge 46 = .ok (.if_icmp .ge 55, 3) := by decide +kernel
theorem dX6_judge_49 : decode cX6_judge 49 = .ok (.lload_n 2, 1) := by decide +kernel
theorem dX6_judge_50 : decode cX6_judge 50 = .ok (.iload_n 1, 1) := by decide +kernel
theorem dX6_judge_51 : decode cX6_judge 51 = .ok (.iconst 1, 1) := by decide +kernel
theorem dX6_judge_52 : decode cX6_judge 52 = .ok (.isub, 1) := by decide +kernel
theorem dX6_judge_53 : decode cX6_judge 53 = .ok (.iload 4, 2) := by decide +kernel
theorem dX6_judge_55 : decode cX6_judge 55 = .ok (.isub, 1) := by decide +kernel
theorem dX6_judge_56 : decode cX6_judge 56 = .ok (.invokestatic 238, 3) := by decide +kernel
theorem dX6_judge_59 : decode cX6_judge 59 = .ok (.ldiv, 1) := by decide +kernel
theorem dX6_judge_60 : decode cX6_judge 60 = .ok (.ldc2_w 236, 3) := by decide +kernel
theorem dX6_judge_63 : decode cX6_judge 63 = .ok (.lrem, 1) := by decide +kernel
theorem dX6_judge_64 : decode cX6_judge 64 = .ok (.l2i, 1) := by decide +kernel
theorem dX6_judge_65 : decode cX6_judge 65 = .ok (.istore 5, 2) := by decide +kernel
theorem dX6_judge_67 : decode cX6_judge 67 = .ok (.aload_n 0, 1) := by decide +kernel
theorem dX6_judge_68 : decode cX6_judge 68 = .ok (.iload 5, 2) := by decide +kernel
theorem dX6_judge_70 : decode cX6_judge 70 = .ok (.bipush 100, 2) := by decide +kernel
theorem dX6_judge_72 : decode cX6_judge 72 = .ok (.idiv, 1) := by decide +kernel
theorem dX6_judge_73 : decode cX6_judge 73 = .ok (.iload 5, 2) := by decide +kernel
theorem dX6_judge_75 : decode cX6_judge 75 = .ok (.bipush 10, 2) := by decide +kernel
theorem dX6_judge_77 : decode cX6_judge 77 = .ok (.idiv, 1) := by decide +kernel
theorem dX6_judge_78 : decode cX6_judge 78 = .ok (.bipush 10, 2) := by decide +kernel
theorem dX6_judge_80 : decode cX6_judge 80 = .ok (.irem, 1) := by decide +kernel
theorem dX6_judge_81 : decode cX6_judge 81 = .ok (.iload 5, 2) := by decide +kernel
theorem dX6_judge_83 : decode cX6_judge 83 = .ok (.bipush 10, 2) := by decide +kernel
theorem dX6_judge_85 : decode cX6_judge 85 = .ok (.irem, 1) := by decide +kernel
theorem dX6_judge_86 : decode cX6_judge 86 = .ok (.invokevirtual 241, 3) := by decide +kernel
theorem dX6_judge_89 : decode cX6_judge 89 = .ok (.ifCond .ne 6, 3) := by decide +kernel
theorem dX6_judge_92 : decode cX6_judge 92 = .ok (.iload 4, 2) := by decide +kernel
theorem dX6_judge_94 : decode cX6_judge 94 = .ok (.ireturn, 1) := by decide +kernel
theorem dX6_judge_95 : decode cX6_judge 95 = .ok (.iinc 4 1, 3) := by decide +kernel
theorem dX6_judge_98 : decode cX6_judge 98 = .ok (.goto (-55), 3) := by decide +kernel
theorem dX6_judge_101 : decode cX6_judge 101 = .ok (.bipush (-9), 2) := by decide +kernel
theorem dX6_judge_103 : decode cX6_judge 103 = .ok (.ireturn, 1) := by decide +kernel
theorem dX6_see_0 : decode cX6_see 0 = .ok (.aload_n 0, 1) := by decide +kernel
theorem dX6_see_1 : decode cX6_see 1 = .ok (.iload_n 1, 1) := by decide +kernel
theorem dX6_see_2 : decode cX6_see 2 = .ok (.invokevirtual 208, 3) := by decide +kernel
theorem dX6_see_5 : decode cX6_see 5 = .ok (.ifCond .ne 5, 3) := by decide +kernel
theorem dX6_see_8 : decode cX6_see 8 = .ok (.iconst (-1), 1) := by decide +kernel
theorem dX6_see_9 : decode cX6_see 9 = .ok (.ireturn, 1) := by decide +kernel
theorem dX6_see_10 : decode cX6_see 10 = .ok (.iload_n 2, 1) := by decide +kernel
theorem dX6_see_11 : decode cX6_see 11 = .ok (.i2l, 1) := by decide +kernel
theorem dX6_see_12 : decode cX6_see 12 = .ok (.lconst 0, 1) := by decide +kernel
theorem dX6_see_13 : decode cX6_see 13 = .ok (.ldc2_w 244, 3) := by decide +kernel
theorem dX6_see_16 : decode cX6_see 16 = .ok (.invokestatic 64, 3) := by decide +kernel
theorem dX6_see_19 : decode cX6_see 19 = .ok (.ifCond .ne 6, 3) := by decide +kernel
theorem dX6_see_22 : decode cX6_see 22 = .ok (.bipush (-2), 2) := by decide +kernel
theorem dX6_see_24 : decode cX6_see 24 = .ok (.ireturn, 1) := by decide +kernel
theorem dX6_see_25 : decode cX6_see 25 = .ok (.aload_n 0, 1) := by decide +kernel
theorem dX6_see_26 : decode cX6_see 26 = .ok (.getfield 202, 3) := by decide +kernel
theorem dX6_see_29 : decode cX6_see 29 = .ok (.bipush 6, 2) := by decide +kernel
theorem dX6_see_31 : decode cX6_see 31 = .ok (.if_icmp .ne 6, 3) := by decide +kernel
theorem dX6_see_34 : decode cX6_see 34 = .ok (.bipush (-4), 2) := by decide +kernel
theorem dX6_see_36 : decode cX6_see 36 = .ok (.ireturn, 1) := by decide +kernel
theorem dX6_see_37 : decode cX6_see 37 = .ok (.aload_n 0, 1) := by decide +kernel
theorem dX6_see_38 : decode cX6_see 38 = .ok (.getfield 29, 3) := by decide +kernel
theorem dX6_see_41 : decode cX6_see 41 = .ok (.aload_n 0, 1) := by decide +kernel
theorem dX6_see_42 : decode cX6_see 42 = .ok (.getfield 202, 3) := by decide +kernel
theorem dX6_see_45 : decode cX6_see 45 = .ok (.iload_n 1, 1) := by decide +kernel
theorem dX6_see_46 : decode cX6_see 46 = .ok (.iastore, 1) := by decide +kernel
theorem dX6_see_47 : decode cX6_see 47 = .ok (.aload_n 0, 1) := by decide +kernel
theorem dX6_see_48 : decode cX6_see 48 = .ok (.getfield 32, 3) := by decide +kernel
theorem dX6_see_51 : decode cX6_see 51 = .ok (.aload_n 0, 1) := by decide +kernel
theorem dX6_see_52 : decode cX6_see 52 = .ok (.getfield 202, 3) := by decide +kernel
theorem dX6_see_55 : decode cX6_see 55 = .ok (.iload_n 2, 1) := by decide +kernel
theorem dX6_see_56 : decode cX6_see 56 = .ok (.iastore, 1) := by decide +kernel
theorem dX6_see_57 : decode cX6_see 57 = .ok (.aload_n 0, 1) := by decide +kernel
theorem dX6_see_58 : decode cX6_see 58 = .ok (.dup, 1) := by decide +kernel
theorem dX6_see_59 : decode cX6_see 59 = .ok (.getfield 202, 3) := by decide +kernel
theorem dX6_see_62 : decode cX6_see 62 = .ok (.iconst 1, 1) := by decide +kernel
theorem dX6_see_63 : decode cX6_see 63 = .ok (.iadd, 1) := by decide +kernel
theorem dX6_see_64 : decode cX6_see 64 = .ok (.putfield 202, 3) := by decide +kernel
theorem dX6_see_67 : decode cX6_see 67 = .ok (.aload_n 0, 1) := by decide +kernel
theorem dX6_see_68 : decode cX6_see 68 = .ok (.getfield 202, 3) := by decide +kernel
theorem dX6_see_71 : decode cX6_see 71 = .ok (.ireturn, 1) := by decide +kernel
theorem dX6_unsee_0 : decode cX6_unsee 0 = .ok (.aload_n 0, 1) := by decide +kernel
theorem dX6_unsee_1 : decode cX6_unsee 1 = .ok (.getfield 202, 3) := by decide +kernel
theorem dX6_unsee_4 : decode cX6_unsee 4 = .ok (.istore_n 1, 1) := by decide +kernel
theorem dX6_unsee_5 : decode cX6_unsee 5 = .ok (.aload_n 0, 1) := by decide +kernel
theorem dX6_unsee_6 : decode cX6_unsee 6 = .ok (.iconst 0, 1) := by decide +kernel
theorem dX6_unsee_7 : decode cX6_unsee 7 = .ok (.putfield 202, 3) := by decide +kernel
theorem dX6_unsee_10 : decode cX6_unsee 10 = .ok (.iload_n 1, 1) := by decide +kernel
theorem dX6_unsee_11 : decode cX6_unsee 11 = .ok (.ireturn, 1) := by decide +kernel
theorem dX6_which_0 : decode cX6_which 0 = .ok (.iconst 0, 1) := by decide +kernel
theorem dX6_which_1 : decode cX6_which 1 = .ok (.istore_n 1, 1) := by decide +kernel
theorem dX6_which_2 : decode cX6_which 2 = .ok (.iconst 0, 1) := by decide +kernel
theorem dX6_which_3 : decode cX6_which 3 = .ok (.istore_n 2, 1) := by decide +kernel
theorem dX6_which_4 : decode cX6_which 4 = .ok (.iload_n 2, 1) := by decide +kernel
theorem dX6_which_5 : decode cX6_which 5 = .ok (.iconst 5, 1) := by decide +kernel
theorem dX6_which_6 : decode cX6_which 6 = .ok (.if_icmp .gt 106, 3) := by decide +kernel
theorem dX6_which_9 : decode cX6_which 9 = .ok (.iconst 1, 1) := by decide +kernel
theorem dX6_which_10 : decode cX6_which 10 = .ok (.istore_n 3, 1) := by decide +kernel
theorem dX6_which_11 : decode cX6_which 11 = .ok (.aload_n 0, 1) := by decide +kernel
theorem dX6_which_12 : decode cX6_which 12 = .ok (.iload_n 2, 1) := by decide +kernel
theorem dX6_which_13 : decode cX6_which 13 = .ok (.putfield 56, 3) := by decide +kernel
theorem dX6_which_16 : decode cX6_which 16 = .ok (.iconst 0, 1) := by decide +kernel
theorem dX6_which_17 : decode cX6_which 17 = .ok (.istore 4, 2) := by decide +kernel
theorem dX6_which_19 : decode cX6_which 19 = .ok (.iload 4, 2) := by decide +kernel
theorem dX6_which_21 : decode cX6_which 21 = .ok (.aload_n 0, 1) := by decide +kernel
theorem dX6_which_22 : decode cX6_which 22 = .ok (.getfield 202, 3) := by decide +kernel
theorem dX6_which_25 : decode cX6_which 25 = .ok (.if_icmp .ge 61, 3) := by decide +kernel
theorem dX6_which_28 : decode cX6_which 28 = .ok (.iload_n 3, 1) := by decide +kernel
theorem dX6_which_29 : decode cX6_which 29 = .ok (.ifCond .eq 49, 3) := by decide +kernel
theorem dX6_which_32 : decode cX6_which 32 = .ok (.aload_n 0, 1) := by decide +kernel
theorem dX6_which_33 : decode cX6_which 33 = .ok (.aload_n 0, 1) := by decide +kernel
theorem dX6_which_34 : decode cX6_which 34 = .ok (.getfield 29, 3) := by decide +kernel
theorem dX6_which_37 : decode cX6_which 37 = .ok (.iload 4, 2) := by decide +kernel
theorem dX6_which_39 : decode cX6_which 39 = .ok (.iaload, 1) := by decide +kernel
theorem dX6_which_40 : decode cX6_which 40 = .ok (.invokevirtual 208, 3) := by decide +kernel
theorem dX6_which_43 : decode cX6_which 43 = .ok (.ifCond .eq 31, 3) := by decide +kernel
theorem dX6_which_46 : decode cX6_which 46 = .ok (.aload_n 0, 1) := by decide +kernel
theorem dX6_which_47 : decode cX6_which 47 = .ok (.aload_n 0, 1) := by decide +kernel
theorem dX6_which_48 : decode cX6_which 48 = .ok (.getfield 13, 3) := by decide +kernel
theorem dX6_which_51 : decode cX6_which 51 = .ok (.aload_n 0, 1) := by decide +kernel
theorem dX6_which_52 : decode cX6_which 52 = .ok (.getfield 29, 3) := by decide +kernel
theorem dX6_which_55 : decode cX6_which 55 = .ok (.iload 4, 2) := by decide +kernel
theorem dX6_which_57 : decode cX6_which 57 = .ok (.iaload, 1) := by decide +kernel
theorem dX6_which_58 : decode cX6_which 58 = .ok (.invokevirtual 144, 3) := by decide +kernel
theorem dX6_which_61 : decode cX6_which 61 = .ok (.invokestatic 153, 3) := by decide +kernel
theorem dX6_which_64 : decode cX6_which 64 = .ok (.aload_n 0, 1) := by decide +kernel
theorem dX6_which_65 : decode cX6_which 65 = .ok (.getfield 32, 3) := by decide +kernel
theorem dX6_which_68 : decode cX6_which 68 = .ok (.iload 4, 2) := by decide +kernel
theorem dX6_which_70 : decode cX6_which 70 = .ok (.iaload, 1) := by decide +kernel
theorem dX6_which_71 : decode cX6_which 71 = .ok (.if_icmp .ne 7, 3) := by decide +kernel
theorem dX6_which_74 : decode cX6_which 74 = .ok (.iconst 1, 1) := by decide +kernel
theorem dX6_which_75 : decode cX6_which 75 = .ok (.goto 4, 3) := by decide +kernel
theorem dX6_which_78 : decode cX6_which 78 = .ok (.iconst 0, 1) := by decide +kernel
theorem dX6_which_79 : decode cX6_which 79 = .ok (.istore_n 3, 1) := by decide +kernel
theorem dX6_which_80 : decode cX6_which 80 = .ok (.iinc 4 1, 3) := by decide +kernel
theorem dX6_which_83 : decode cX6_which 83 = .ok (.goto (-64), 3) := by decide +kernel
theorem dX6_which_86 : decode cX6_which 86 = .ok (.aload_n 0, 1) := by decide +kernel
theorem dX6_which_87 : decode cX6_which 87 = .ok (.bipush (-9), 2) := by decide +kernel
theorem dX6_which_89 : decode cX6_which 89 = .ok (.putfield 56, 3) := by decide +kernel
theorem dX6_which_92 : decode cX6_which 92 = .ok (.iload_n 1, 1) := by decide +kernel
theorem dX6_which_93 : decode cX6_which 93 = .ok (.iload_n 3, 1) := by decide +kernel
theorem dX6_which_94 : decode cX6_which 94 = .ok (.ifCond .eq 9, 3) := by decide +kernel
theorem dX6_which_97 : decode cX6_which 97 = .ok (.iconst 1, 1) := by decide +kernel
theorem dX6_which_98 : decode cX6_which 98 = .ok (.iload_n 2, 1) := by decide +kernel
theorem dX6_which_99 : decode cX6_which 99 = .ok (.ishl, 1) := by decide +kernel
theorem dX6_which_100 : decode cX6_which 100 = .ok (.goto 4, 3) := by decide +kernel
theorem dX6_which_103 : decode cX6_which 103 = .ok (.iconst 0, 1) := by decide +kernel
theorem dX6_which_104 : decode cX6_which 104 = .ok (.ior, 1) := by decide +kernel
theorem dX6_which_105 : decode cX6_which 105 = .ok (.istore_n 1, 1) := by decide +kernel
theorem dX6_which_106 : decode cX6_which 106 = .ok (.iinc 2 1, 3) := by decide +kernel
theorem dX6_which_109 : decode cX6_which 109 = .ok (.goto (-105), 3) := by decide +kernel
theorem dX6_which_112 : decode cX6_which 112 = .ok (.iload_n 1, 1) := by decide +kernel
theorem dX6_which_113 : decode cX6_which 113 = .ok (.ireturn, 1) := by decide +kernel
theorem dX6_layWorth_0 : decode cX6_layWorth 0 = .ok (.aload_n 0, 1) := by decide +kernel
theorem dX6_layWorth_1 : decode cX6_layWorth 1 = .ok (.getfield 13, 3) := by decide +kernel
theorem dX6_layWorth_4 : decode cX6_layWorth 4 = .ok (.bipush 83, 2) := by decide +kernel
theorem dX6_layWorth_6 : decode cX6_layWorth 6 = .ok (.iaload, 1) := by decide +kernel
theorem dX6_layWorth_7 : decode cX6_layWorth 7 = .ok (.istore_n 1, 1) := by decide +kernel
theorem dX6_layWorth_8 : decode cX6_layWorth 8 = .ok (.iconst 0, 1) := by decide +kernel
theorem dX6_layWorth_9 : decode cX6_layWorth 9 = .ok (.istore_n 2, 1) := by decide +kernel
theorem dX6_layWorth_10 : decode cX6_layWorth 10 = .ok (.iload_n 2, 1) := by decide +kernel
theorem dX6_layWorth_11 : decode cX6_layWorth 11 = .ok (.iload_n 1, 1) := by decide +kernel
theorem dX6_layWorth_12 : decode cX6_layWorth 12 = .ok (.if_icmp .ge 24, 3) := by decide +kernel
theorem dX6_layWorth_15 : decode cX6_layWorth 15 = .ok (.aload_n 0, 1) := by decide +kernel
theorem dX6_layWorth_16 : decode cX6_layWorth 16 = .ok (.getfield 44, 3) := by decide +kernel
theorem dX6_layWorth_19 : decode cX6_layWorth 19 = .ok (.iload_n 2, 1) := by decide +kernel
theorem dX6_layWorth_20 : decode cX6_layWorth 20 = .ok (.aload_n 0, 1) := by decide +kernel
theorem dX6_layWorth_21 : decode cX6_layWorth 21 = .ok (.aload_n 0, 1) := by decide +kernel
theorem dX6_layWorth_22 : decode cX6_layWorth 22 = .ok (.getfield 13, 3) := by decide +kernel
theorem dX6_layWorth_25 : decode cX6_layWorth 25 = .ok (.iload_n 2, 1) := by decide +kernel
theorem dX6_layWorth_26 : decode cX6_layWorth 26 = .ok (.invokevirtual 144, 3) := by decide +kernel
theorem dX6_layWorth_29 : decode cX6_layWorth 29 = .ok (.iastore, 1) := by decide +kernel
theorem dX6_layWorth_30 : decode cX6_layWorth 30 = .ok (.iinc 2 1, 3) := by decide +kernel
theorem dX6_layWorth_33 : decode cX6_layWorth 33 = .ok (.goto (-23), 3) := by decide +kernel
theorem dX6_layWorth_36 : decode cX6_layWorth 36 = .ok (.iconst 0, 1) := by decide +kernel
theorem dX6_layWorth_37 : decode cX6_layWorth 37 = .ok (.istore_n 2, 1) := by decide +kernel
theorem dX6_layWorth_38 : decode cX6_layWorth 38 = .ok (.iload_n 2, 1) := by decide +kernel
theorem dX6_layWorth_39 : decode cX6_layWorth 39 = .ok (.iconst 1, 1) := by decide +kernel
theorem dX6_layWorth_40 : decode cX6_layWorth 40 = .ok (.iload_n 1, 1) := by decide +kernel
theorem dX6_layWorth_41 : decode cX6_layWorth 41 = .ok (.ishl, 1) := by decide +kernel
theorem dX6_layWorth_42 : decode cX6_layWorth 42 = .ok (.if_icmp .ge 59, 3) := by decide +kernel
theorem dX6_layWorth_45 : decode cX6_layWorth 45 = .ok (.iconst 0, 1) := by decide +kernel
theorem dX6_layWorth_46 : decode cX6_layWorth 46 = .ok (.istore_n 3, 1) := by decide +kernel
theorem dX6_layWorth_47 : decode cX6_layWorth 47 = .ok (.iconst 0, 1) := by decide +kernel
theorem dX6_layWorth_48 : decode cX6_layWorth 48 = .ok (.istore 4, 2) := by decide +kernel
theorem dX6_layWorth_50 : decode cX6_layWorth 50 = .ok (.iload 4, 2) := by decide +kernel
theorem dX6_layWorth_52 : decode cX6_layWorth 52 = .ok (.iload_n 1, 1) := by decide +kernel
theorem dX6_layWorth_53 : decode cX6_layWorth 53 = .ok (.if_icmp .ge 32, 3) := by decide +kernel
theorem dX6_layWorth_56 : decode cX6_layWorth 56 = .ok (.iload_n 3, 1) := by decide +kernel
theorem dX6_layWorth_57 : decode cX6_layWorth 57 = .ok (.iload_n 2, 1) := by decide +kernel
theorem dX6_layWorth_58 : decode cX6_layWorth 58 = .ok (.iload 4, 2) := by decide +kernel
theorem dX6_layWorth_60 : decode cX6_layWorth 60 = .ok (.invokestatic 122, 3) := by decide +kernel
theorem dX6_layWorth_63 : decode cX6_layWorth 63 = .ok (.ifCond .eq 13, 3) := by decide +kernel
theorem dX6_layWorth_66 : decode cX6_layWorth 66 = .ok (.aload_n 0, 1) := by decide +kernel
theorem dX6_layWorth_67 : decode cX6_layWorth 67 = .ok (.getfield 44, 3) := by decide +kernel
theorem dX6_layWorth_70 : decode cX6_layWorth 70 = .ok (.iload 4, 2) := by decide +kernel
theorem dX6_layWorth_72 : decode cX6_layWorth 72 = .ok (.iaload, 1) := by decide +kernel
theorem dX6_layWorth_73 : decode cX6_layWorth 73 = .ok (.goto 4, 3) := by decide +kernel
theorem dX6_layWorth_76 : decode cX6_layWorth 76 = .ok (.iconst 0, 1) := by decide +kernel
theorem dX6_layWorth_77 : decode cX6_layWorth 77 = .ok (.ior, 1) := by decide +kernel
theorem dX6_layWorth_78 : decode cX6_layWorth 78 = .ok (.istore_n 3, 1) := by decide +kernel
theorem dX6_layWorth_79 : decode cX6_layWorth 79 = .ok (.iinc 4 1, 3) := by decide +kernel
theorem dX6_layWorth_82 : decode cX6_layWorth 82 = .ok (.goto (-32), 3) := by decide +kernel
theorem dX6_layWorth_85 : decode cX6_layWorth 85 = .ok (.aload_n 0, 1) := by decide +kernel
theorem dX6_layWorth_86 : decode cX6_layWorth 86 = .ok (.getfield 41, 3) := by decide +kernel
theorem dX6_layWorth_89 : decode cX6_layWorth 89 = .ok (.iload_n 2, 1) := by decide +kernel
theorem dX6_layWorth_90 : decode cX6_layWorth 90 = .ok (.iload_n 3, 1) := by decide +kernel
theorem dX6_layWorth_91 : decode cX6_layWorth 91 = .ok (.invokestatic 153, 3) := by decide +kernel
theorem dX6_layWorth_94 : decode cX6_layWorth 94 = .ok (.iastore, 1) := by decide +kernel
theorem dX6_layWorth_95 : decode cX6_layWorth 95 = .ok (.iinc 2 1, 3) := by decide +kernel
theorem dX6_layWorth_98 : decode cX6_layWorth 98 = .ok (.goto (-60), 3) := by decide +kernel
theorem dX6_layWorth_101 : decode cX6_layWorth 101 = .ok (.return_, 1) := by decide +kernel
theorem dX6_share_0 : decode cX6_share 0 = .ok (.aload_n 0, 1) := by decide +kernel
theorem dX6_share_1 : decode cX6_share 1 = .ok (.iload_n 1, 1) := by decide +kernel
theorem dX6_share_2 : decode cX6_share 2 = .ok (.invokevirtual 208, 3) := by decide +kernel
theorem dX6_share_5 : decode cX6_share 5 = .ok (.ifCond .ne 5, 3) := by decide +kernel
theorem dX6_share_8 : decode cX6_share 8 = .ok (.iconst (-1), 1) := by decide +kernel
theorem dX6_share_9 : decode cX6_share 9 = .ok (.ireturn, 1) := by decide +kernel
theorem dX6_share_10 : decode cX6_share 10 = .ok (.aload_n 0, 1) := by decide +kernel
theorem dX6_share_11 : decode cX6_share 11 = .ok (.getfield 13, 3) := by decide +kernel
theorem dX6_share_14 : decode cX6_share 14 = .ok (.bipush 83, 2) := by decide +kernel
theorem dX6_share_16 : decode cX6_share 16 = .ok (.iaload, 1) := by decide +kernel
theorem dX6_share_17 : decode cX6_share 17 = .ok (.istore_n 3, 1) := by decide +kernel
theorem dX6_share_18 : decode cX6_share 18 = .ok (.aload_n 0, 1) := by decide +kernel
theorem dX6_share_19 : decode cX6_share 19 = .ok (.invokevirtual 246, 3) := by decide +kernel
theorem dX6_share_22 : decode cX6_share 22 = .ok (.iconst 0, 1) := by decide +kernel
theorem dX6_share_23 : decode cX6_share 23 = .ok (.istore 4, 2) := by decide +kernel
theorem dX6_share_25 : decode cX6_share 25 = .ok (.iconst 0, 1) := by decide +kernel
theorem dX6_share_26 : decode cX6_share 26 = .ok (.istore 5, 2) := by decide +kernel
theorem dX6_share_28 : decode cX6_share 28 = .ok (.iload 5, 2) := by decide +kernel
theorem dX6_share_30 : decode cX6_share 30 = .ok (.iconst 1, 1) := by decide +kernel
theorem dX6_share_31 : decode cX6_share 31 = .ok (.iload_n 3, 1) := by decide +kernel
theorem dX6_share_32 : decode cX6_share 32 = .ok (.ishl, 1) := by decide +kernel
theorem dX6_share_33 : decode cX6_share 33 = .ok (.if_icmp .ge 65, 3) := by decide +kernel
theorem dX6_share_36 : decode cX6_share 36 = .ok (.iload 5, 2) := by decide +kernel
theorem dX6_share_38 : decode cX6_share 38 = .ok (.iload_n 1, 1) := by decide +kernel
theorem dX6_share_39 : decode cX6_share 39 = .ok (.invokestatic 122, 3) := by decide +kernel
theorem dX6_share_42 : decode cX6_share 42 = .ok (.ifCond .ne 50, 3) := by decide +kernel
theorem dX6_share_45 : decode cX6_share 45 = .ok (.iload 5, 2) := by decide +kernel
theorem dX6_share_47 : decode cX6_share 47 = .ok (.invokestatic 153, 3) := by decide +kernel
theorem dX6_share_50 : decode cX6_share 50 = .ok (.istore 6, 2) := by decide +kernel
theorem dX6_share_52 : decode cX6_share 52 = .ok (.iload 4, 2) := by decide +kernel
theorem dX6_share_54 : decode cX6_share 54 = .ok (.iload 6, 2) := by decide +kernel
theorem dX6_share_56 : decode cX6_share 56 = .ok (.invokestatic 249, 3) := by decide +kernel
theorem dX6_share_59 : decode cX6_share 59 = .ok (.iload_n 3, 1) := by decide +kernel
theorem dX6_share_60 : decode cX6_share 60 = .ok (.iconst 1, 1) := by decide +kernel
theorem dX6_share_61 : decode cX6_share 61 = .ok (.isub, 1) := by decide +kernel
theorem dX6_share_62 : decode cX6_share 62 = .ok (.iload 6, 2) := by decide +kernel
theorem dX6_share_64 : decode cX6_share 64 = .ok (.isub, 1) := by decide +kernel
theorem dX6_share_65 : decode cX6_share 65 = .ok (.invokestatic 249, 3) := by decide +kernel
theorem dX6_share_68 : decode cX6_share 68 = .ok (.imul, 1) := by decide +kernel
theorem dX6_share_69 : decode cX6_share 69 = .ok (.aload_n 0, 1) := by decide +kernel
theorem dX6_share_70 : decode cX6_share 70 = .ok (.getfield 41, 3) := by decide +kernel
theorem dX6_share_73 : decode cX6_share 73 = .ok (.iload 5, 2) := by decide +kernel
theorem dX6_share_75 : decode cX6_share 75 = .ok (.iconst 1, 1) := by decide +kernel
theorem dX6_share_76 : decode cX6_share 76 = .ok (.iload_n 1, 1) := by decide +kernel
theorem dX6_share_77 : decode cX6_share 77 = .ok (.ishl, 1) := by decide +kernel
theorem dX6_share_78 : decode cX6_share 78 = .ok (.ior, 1) := by decide +kernel
theorem dX6_share_79 : decode cX6_share 79 = .ok (.iaload, 1) := by decide +kernel
theorem dX6_share_80 : decode cX6_share 80 = .ok (.aload_n 0, 1) := by decide +kernel
theorem dX6_share_81 : decode cX6_share 81 = .ok (.getfield 41, 3) := by decide +kernel
theorem dX6_share_84 : decode cX6_share 84 = .ok (.iload 5, 2) := by decide +kernel
theorem dX6_share_86 : decode cX6_share 86 = .ok (.iaload, 1) := by decide +kernel
theorem dX6_share_87 : decode cX6_share 87 = .ok (.isub, 1) := by decide +kernel
theorem dX6_share_88 : decode cX6_share 88 = .ok (.imul, 1) := by decide +kernel
theorem dX6_share_89 : decode cX6_share 89 = .ok (.iadd, 1) := by decide +kernel
theorem dX6_share_90 : decode cX6_share 90 = .ok (.istore 4, 2) := by decide +kernel
theorem dX6_share_92 : decode cX6_share 92 = .ok (.iinc 5 1, 3) := by decide +kernel
theorem dX6_share_95 : decode cX6_share 95 = .ok (.goto (-67), 3) := by decide +kernel
theorem dX6_share_98 : decode cX6_share 98 = .ok (.iload 4, 2) := by decide +kernel
theorem dX6_share_100 : decode cX6_share 100 = .ok (.iload_n 3, 1) := by decide +kernel
theorem dX6_share_101 : decode cX6_share 101 = .ok (.invokestatic 249, 3) := by decide +kernel
theorem dX6_share_104 : decode cX6_share 104 = .ok (.iload_n 2, 1) := by decide +kernel
theorem dX6_share_105 : decode cX6_share 105 = .ok (.invokestatic 252, 3) := by decide +kernel
theorem dX6_share_108 : decode cX6_share 108 = .ok (.ireturn, 1) := by decide +kernel
theorem dX6_chance_0 : decode cX6_chance 0 = .ok (.iload_n 1, 1) := by decide +kernel
theorem dX6_chance_1 : decode cX6_chance 1 = .ok (.i2l, 1) := by decide +kernel
theorem dX6_chance_2 : decode cX6_chance 2 = .ok (.lconst 0, 1) := by decide +kernel
theorem dX6_chance_3 : decode cX6_chance 3 = .ok (.ldc2_w 244, 3) := by decide +kernel
theorem dX6_chance_6 : decode cX6_chance 6 = .ok (.invokestatic 64, 3) := by decide +kernel
theorem dX6_chance_9 : decode cX6_chance 9 = .ok (.ifCond .eq 15, 3) := by decide +kernel
theorem dX6_chance_12 : decode cX6_chance 12 = .ok (.iload_n 2, 1) := by decide +kernel
theorem dX6_chance_13 : decode cX6_chance 13 = .ok (.i2l, 1) := by decide +kernel
theorem dX6_chance_14 : decode cX6_chance 14 = .ok (.lconst 0, 1) := by decide +kernel
theorem dX6_chance_15 : decode cX6_chance 15 = .ok (.ldc2_w 256, 3) := by decide +kernel
theorem dX6_chance_18 : decode cX6_chance 18 = .ok (.invokestatic 64, 3) := by decide +kernel
theorem dX6_chance_21 : decode cX6_chance 21 = .ok (.ifCond .ne 6, 3) := by decide +kernel
theorem dX6_chance_24 : decode cX6_chance 24 = .ok (.bipush (-2), 2) := by decide +kernel
theorem dX6_chance_26 : decode cX6_chance 26 = .ok (.ireturn, 1) := by decide +kernel
theorem dX6_chance_27 : decode cX6_chance 27 = .ok (.aload_n 0, 1) := by decide +kernel
theorem dX6_chance_28 : decode cX6_chance 28 = .ok (.getfield 13, 3) := by decide +kernel
theorem dX6_chance_31 : decode cX6_chance 31 = .ok (.bipush 83, 2) := by decide +kernel
theorem dX6_chance_33 : decode cX6_chance 33 = .ok (.iaload, 1) := by decide +kernel
theorem dX6_chance_34 : decode cX6_chance 34 = .ok (.istore 4, 2) := by decide +kernel
theorem dX6_chance_36 : decode cX6_chance 36 = .ok (.aload_n 0, 1) := by decide +kernel
theorem dX6_chance_37 : decode cX6_chance 37 = .ok (.invokevirtual 246, 3) := by decide +kernel
theorem dX6_chance_40 : decode cX6_chance 40 = .ok (.iconst 0, 1) := by decide +kernel
theorem dX6_chance_41 : decode cX6_chance 41 = .ok (.istore 5, 2) := by decide +kernel
theorem dX6_chance_43 : decode cX6_chance 43 = .ok (.iconst 0, 1) := by decide +kernel
theorem dX6_chance_44 : decode cX6_chance 44 = .ok (.istore 6, 2) := by decide +kernel
theorem dX6_chance_46 : decode cX6_chance 46 = .ok (.iload 6, 2) := by decide +kernel
theorem dX6_chance_48 : decode cX6_chance 48 = .ok (.iconst 1, 1) := by decide +kernel
theorem dX6_chance_49 : decode cX6_chance 49 = .ok (.iload 4, 2) := by decide +kernel
theorem dX6_chance_51 : decode cX6_chance 51 = .ok (.ishl, 1) := by decide +kernel
theorem dX6_chance_52 : decode cX6_chance 52 = .ok (.if_icmp .ge 54, 3) := by decide +kernel
theorem dX6_chance_55 : decode cX6_chance 55 = .ok (.iload 5, 2) := by decide +kernel
theorem dX6_chance_57 : decode cX6_chance 57 = .ok (.aload_n 0, 1) := by decide +kernel
theorem dX6_chance_58 : decode cX6_chance 58 = .ok (.getfield 41, 3) := by decide +kernel
theorem dX6_chance_61 : decode cX6_chance 61 = .ok (.iload 6, 2) := by decide +kernel
theorem dX6_chance_63 : decode cX6_chance 63 = .ok (.iaload, 1) := by decide +kernel
theorem dX6_chance_64 : decode cX6_chance 64 = .ok (.iload_n 1, 1) := by decide +kernel
theorem dX6_chance_65 : decode cX6_chance 65 = .ok (.if_icmp .lt 31, 3) := by decide +kernel
theorem dX6_chance_68 : decode cX6_chance 68 = .ok (.bipush 10, 2) := by decide +kernel
theorem dX6_chance_70 : decode cX6_chance 70 = .ok (.iload_n 2, 1) := by decide +kernel
theorem dX6_chance_71 : decode cX6_chance 71 = .ok (.isub, 1) := by decide +kernel
theorem dX6_chance_72 : decode cX6_chance 72 = .ok (.iload 6, 2) := by decide +kernel
theorem dX6_chance_74 : decode cX6_chance 74 = .ok (.invokestatic 153, 3) := by decide +kernel
theorem dX6_chance_77 : decode cX6_chance 77 = .ok (.invokestatic 258, 3) := by decide +kernel
theorem dX6_chance_80 : decode cX6_chance 80 = .ok (.iload_n 2, 1) := by decide +kernel
theorem dX6_chance_81 : decode cX6_chance 81 = .ok (.iload 4, 2) := by decide +kernel
theorem dX6_chance_83 : decode cX6_chance 83 = .ok (.iload 6, 2) := by decide +kernel
theorem dX6_chance_85 : decode cX6_chance 85 = .ok (.invokestatic 153, 3) := by decide +kernel
theorem dX6_chance_88 : decode cX6_chance 88 = .ok (.isub, 1) := by decide +kernel
theorem dX6_chance_89 : decode cX6_chance 89 = .ok (.invokestatic 258, 3) := by decide +kernel
theorem dX6_chance_92 : decode cX6_chance 92 = .ok (.imul, 1) := by decide +kernel
theorem dX6_chance_93 : decode cX6_chance 93 = .ok (.goto 4, 3) := by decide +kernel
theorem dX6_chance_96 : decode cX6_chance 96 = .ok (.iconst 0, 1) := by decide +kernel
theorem dX6_chance_97 : decode cX6_chance 97 = .ok (.iadd, 1) := by decide +kernel
theorem dX6_chance_98 : decode cX6_chance 98 = .ok (.istore 5, 2) := by decide +kernel
theorem dX6_chance_100 : decode cX6_chance 100 = .ok (.iinc 6 1, 3) := by decide +kernel
theorem dX6_chance_103 : decode cX6_chance 103 = .ok (.goto (-57), 3) := by decide +kernel
theorem dX6_chance_106 : decode cX6_chance 106 = .ok (.iload 5, 2) := by decide +kernel
theorem dX6_chance_108 : decode cX6_chance 108 = .ok (.bipush 10, 2) := by decide +kernel
theorem dX6_chance_110 : decode cX6_chance 110 = .ok (.iload 4, 2) := by decide +kernel
theorem dX6_chance_112 : decode cX6_chance 112 = .ok (.invokestatic 258, 3) := by decide +kernel
theorem dX6_chance_115 : decode cX6_chance 115 = .ok (.iload_n 3, 1) := by decide +kernel
theorem dX6_chance_116 : decode cX6_chance 116 = .ok (.invokestatic 252, 3) := by decide +kernel
theorem dX6_chance_119 : decode cX6_chance 119 = .ok (.ireturn, 1) := by decide +kernel
theorem dX6_seed_0 : decode cX6_seed 0 = .ok (.aload_n 0, 1) := by decide +kernel
theorem dX6_seed_1 : decode cX6_seed 1 = .ok (.getfield 262, 3) := by decide +kernel
theorem dX6_seed_4 : decode cX6_seed 4 = .ok (.lstore_n 3, 1) := by decide +kernel
theorem dX6_seed_5 : decode cX6_seed 5 = .ok (.aload_n 0, 1) := by decide +kernel
theorem dX6_seed_6 : decode cX6_seed 6 = .ok (.lload_n 1, 1) := by decide +kernel
theorem dX6_seed_7 : decode cX6_seed 7 = .ok (.putfield 262, 3) := by decide +kernel
theorem dX6_seed_10 : decode cX6_seed 10 = .ok (.lload_n 3, 1) := by decide +kernel
theorem dX6_seed_11 : decode cX6_seed 11 = .ok (.lreturn, 1) := by decide +kernel
theorem dX6_drawn_0 : decode cX6_drawn 0 = .ok (.iload_n 1, 1) := by decide +kernel
theorem dX6_drawn_1 : decode cX6_drawn 1 = .ok (.i2l, 1) := by decide +kernel
theorem dX6_drawn_2 : decode cX6_drawn 2 = .ok (.lconst 1, 1) := by decide +kernel
theorem dX6_drawn_3 : decode cX6_drawn 3 = .ok (.ldc2_w 266, 3) := by decide +kernel
theorem dX6_drawn_6 : decode cX6_drawn 6 = .ok (.invokestatic 64, 3) := by decide +kernel
theorem dX6_drawn_9 : decode cX6_drawn 9 = .ok (.ifCond .ne 6, 3) := by decide +kernel
theorem dX6_drawn_12 : decode cX6_drawn 12 = .ok (.bipush (-2), 2) := by decide +kernel
theorem dX6_drawn_14 : decode cX6_drawn 14 = .ok (.ireturn, 1) := by decide +kernel
theorem dX6_drawn_15 : decode cX6_drawn 15 = .ok (.aload_n 0, 1) := by decide +kernel
theorem dX6_drawn_16 : decode cX6_drawn 16 = .ok (.getfield 13, 3) := by decide +kernel
theorem dX6_drawn_19 : decode cX6_drawn 19 = .ok (.aload_n 0, 1) := by decide +kernel
theorem dX6_drawn_20 : decode cX6_drawn 20 = .ok (.getfield 16, 3) := by decide +kernel
theorem dX6_drawn_23 : decode cX6_drawn 23 = .ok (.invokestatic 211, 3) := by decide +kernel
theorem dX6_drawn_26 : decode cX6_drawn 26 = .ok (.iconst 0, 1) := by decide +kernel
theorem dX6_drawn_27 : decode cX6_drawn 27 = .ok (.istore_n 2, 1) := by decide +kernel
theorem dX6_drawn_28 : decode cX6_drawn 28 = .ok (.iload_n 2, 1) := by decide +kernel
theorem dX6_drawn_29 : decode cX6_drawn 29 = .ok (.iload_n 1, 1) := by decide +kernel
theorem dX6_drawn_30 : decode cX6_drawn 30 = .ok (.if_icmp .ge 91, 3) := by decide +kernel
theorem dX6_drawn_33 : decode cX6_drawn 33 = .ok (.aload_n 0, 1) := by decide +kernel
theorem dX6_drawn_34 : decode cX6_drawn 34 = .ok (.aload_n 0, 1) := by decide +kernel
theorem dX6_drawn_35 : decode cX6_drawn 35 = .ok (.getfield 262, 3) := by decide +kernel
theorem dX6_drawn_38 : decode cX6_drawn 38 = .ok (.ldc2_w 268, 3) := by decide +kernel
theorem dX6_drawn_41 : decode cX6_drawn 41 = .ok (.lmul, 1) := by decide +kernel
theorem dX6_drawn_42 : decode cX6_drawn 42 = .ok (.ldc2_w 270, 3) := by decide +kernel
theorem dX6_drawn_45 : decode cX6_drawn 45 = .ok (.ladd, 1) := by decide +kernel
theorem dX6_drawn_46 : decode cX6_drawn 46 = .ok (.putfield 262, 3) := by decide +kernel
theorem dX6_drawn_49 : decode cX6_drawn 49 = .ok (.aload_n 0, 1) := by decide +kernel
theorem dX6_drawn_50 : decode cX6_drawn 50 = .ok (.getfield 262, 3) := by decide +kernel
theorem dX6_drawn_53 : decode cX6_drawn 53 = .ok (.bipush 33, 2) := by decide +kernel
theorem dX6_drawn_55 : decode cX6_drawn 55 = .ok (.lushr, 1) := by decide +kernel
theorem dX6_drawn_56 : decode cX6_drawn 56 = .ok (.l2i, 1) := by decide +kernel
theorem dX6_drawn_57 : decode cX6_drawn 57 = .ok (.istore_n 3, 1) := by decide +kernel
theorem dX6_drawn_58 : decode cX6_drawn 58 = .ok (.iload_n 3, 1) := by decide +kernel
theorem dX6_drawn_59 : decode cX6_drawn 59 = .ok (.bipush 8, 2) := by decide +kernel
theorem dX6_drawn_61 : decode cX6_drawn 61 = .ok (.irem, 1) := by decide +kernel
theorem dX6_drawn_62 : decode cX6_drawn 62 = .ok (.istore 4, 2) := by decide +kernel
theorem dX6_drawn_64 : decode cX6_drawn 64 = .ok (.iload 4, 2) := by decide +kernel
theorem dX6_drawn_66 : decode cX6_drawn 66 = .ok (.iconst 4, 1) := by decide +kernel
theorem dX6_drawn_67 : decode cX6_drawn 67 = .ok (.if_icmp .ge 12, 3) := by decide +kernel
theorem dX6_drawn_70 : decode cX6_drawn 70 = .ok (.iload_n 3, 1) := by decide +kernel
theorem dX6_drawn_71 : decode cX6_drawn 71 = .ok (.bipush 8, 2) := by decide +kernel
theorem dX6_drawn_73 : decode cX6_drawn 73 = .ok (.idiv, 1) := by decide +kernel
theorem dX6_drawn_74 : decode cX6_drawn 74 = .ok (.iconst 5, 1) := by decide +kernel
theorem dX6_drawn_75 : decode cX6_drawn 75 = .ok (.irem, 1) := by decide +kernel
theorem dX6_drawn_76 : decode cX6_drawn 76 = .ok (.goto 25, 3) := by decide +kernel
theorem dX6_drawn_79 : decode cX6_drawn 79 = .ok (.iload 4, 2) := by decide +kernel
theorem dX6_drawn_81 : decode cX6_drawn 81 = .ok (.bipush 6, 2) := by decide +kernel
theorem dX6_drawn_83 : decode cX6_drawn 83 = .ok (.if_icmp .ge 8, 3) := by decide +kernel
theorem dX6_drawn_86 : decode cX6_drawn 86 = .ok (.bipush 10, 2) := by decide +kernel
theorem dX6_drawn_88 : decode cX6_drawn 88 = .ok (.goto 13, 3) := by decide +kernel
theorem dX6_drawn_91 : decode cX6_drawn 91 = .ok (.bipush 20, 2) := by decide +kernel
theorem dX6_drawn_93 : decode cX6_drawn 93 = .ok (.iload_n 3, 1) := by decide +kernel
theorem dX6_drawn_94 : decode cX6_drawn 94 = .ok (.bipush 8, 2) := by decide +kernel
theorem dX6_drawn_96 : decode cX6_drawn 96 = .ok (.idiv, 1) := by decide +kernel
theorem dX6_drawn_97 : decode cX6_drawn 97 = .ok (.bipush 10, 2) := by decide +kernel
theorem dX6_drawn_99 : decode cX6_drawn 99 = .ok (.irem, 1) := by decide +kernel
theorem dX6_drawn_100 : decode cX6_drawn 100 = .ok (.iadd, 1) := by decide +kernel
theorem dX6_drawn_101 : decode cX6_drawn 101 = .ok (.istore 5, 2) := by decide +kernel
theorem dX6_drawn_103 : decode cX6_drawn 103 = .ok (.aload_n 0, 1) := by decide +kernel
theorem dX6_drawn_104 : decode cX6_drawn 104 = .ok (.aload_n 0, 1) := by decide +kernel
theorem dX6_drawn_105 : decode cX6_drawn 105 = .ok (.getfield 16, 3) := by decide +kernel
theorem dX6_drawn_108 : decode cX6_drawn 108 = .ok (.iload 5, 2) := by decide +kernel
theorem dX6_drawn_110 : decode cX6_drawn 110 = .ok (.invokevirtual 188, 3) := by decide +kernel
theorem dX6_drawn_113 : decode cX6_drawn 113 = .ok (.istore 6, 2) := by decide +kernel
theorem dX6_drawn_115 : decode cX6_drawn 115 = .ok (.iinc 2 1, 3) := by decide +kernel
theorem dX6_drawn_118 : decode cX6_drawn 118 = .ok (.goto (-90), 3) := by decide +kernel
theorem dX6_drawn_121 : decode cX6_drawn 121 = .ok (.iconst 0, 1) := by decide +kernel
theorem dX6_drawn_122 : decode cX6_drawn 122 = .ok (.istore_n 2, 1) := by decide +kernel
theorem dX6_drawn_123 : decode cX6_drawn 123 = .ok (.iconst 0, 1) := by decide +kernel
theorem dX6_drawn_124 : decode cX6_drawn 124 = .ok (.istore_n 3, 1) := by decide +kernel
theorem dX6_drawn_125 : decode cX6_drawn 125 = .ok (.iload_n 3, 1) := by decide +kernel
theorem dX6_drawn_126 : decode cX6_drawn 126 = .ok (.aload_n 0, 1) := by decide +kernel
theorem dX6_drawn_127 : decode cX6_drawn 127 = .ok (.getfield 16, 3) := by decide +kernel
theorem dX6_drawn_130 : decode cX6_drawn 130 = .ok (.bipush 83, 2) := by decide +kernel
theorem dX6_drawn_132 : decode cX6_drawn 132 = .ok (.iaload, 1) := by decide +kernel
theorem dX6_drawn_133 : decode cX6_drawn 133 = .ok (.if_icmp .ge 24, 3) := by decide +kernel
theorem dX6_drawn_136 : decode cX6_drawn 136 = .ok (.iload_n 2, 1) := by decide +kernel
theorem dX6_drawn_137 : decode cX6_drawn 137 = .ok (.aload_n 0, 1) := by decide +kernel
theorem dX6_drawn_138 : decode cX6_drawn 138 = .ok (.aload_n 0, 1) := by decide +kernel
theorem dX6_drawn_139 : decode cX6_drawn 139 = .ok (.getfield 16, 3) := by decide +kernel
theorem dX6_drawn_142 : decode cX6_drawn 142 = .ok (.iload_n 3, 1) := by decide +kernel
theorem dX6_drawn_143 : decode cX6_drawn 143 = .ok (.invokevirtual 144, 3) := by decide +kernel
theorem dX6_drawn_146 : decode cX6_drawn 146 = .ok (.invokestatic 153, 3) := by decide +kernel
theorem dX6_drawn_149 : decode cX6_drawn 149 = .ok (.iadd, 1) := by decide +kernel
theorem dX6_drawn_150 : decode cX6_drawn 150 = .ok (.istore_n 2, 1) := by decide +kernel
theorem dX6_drawn_151 : decode cX6_drawn 151 = .ok (.iinc 3 1, 3) := by decide +kernel
theorem dX6_drawn_154 : decode cX6_drawn 154 = .ok (.goto (-29), 3) := by decide +kernel
theorem dX6_drawn_157 : decode cX6_drawn 157 = .ok (.iload_n 2, 1) := by decide +kernel
theorem dX6_drawn_158 : decode cX6_drawn 158 = .ok (.ireturn, 1) := by decide +kernel
theorem dX6_keep_0 : decode cX6_keep 0 = .ok (.iload_n 1, 1) := by decide +kernel
theorem dX6_keep_1 : decode cX6_keep 1 = .ok (.i2l, 1) := by decide +kernel
theorem dX6_keep_2 : decode cX6_keep 2 = .ok (.lconst 0, 1) := by decide +kernel
theorem dX6_keep_3 : decode cX6_keep 3 = .ok (.lconst 1, 1) := by decide +kernel
theorem dX6_keep_4 : decode cX6_keep 4 = .ok (.invokestatic 64, 3) := by decide +kernel
theorem dX6_keep_7 : decode cX6_keep 7 = .ok (.ifCond .ne 5, 3) := by decide +kernel
theorem dX6_keep_10 : decode cX6_keep 10 = .ok (.iconst (-1), 1) := by decide +kernel
theorem dX6_keep_11 : decode cX6_keep 11 = .ok (.ireturn, 1) := by decide +kernel
theorem dX6_keep_12 : decode cX6_keep 12 = .ok (.aload_n 0, 1) := by decide +kernel
theorem dX6_keep_13 : decode cX6_keep 13 = .ok (.getfield 25, 3) := by decide +kernel
theorem dX6_keep_16 : decode cX6_keep 16 = .ok (.iload_n 1, 1) := by decide +kernel
theorem dX6_keep_17 : decode cX6_keep 17 = .ok (.iconst 1, 1) := by decide +kernel
theorem dX6_keep_18 : decode cX6_keep 18 = .ok (.bastore, 1) := by decide +kernel
theorem dX6_keep_19 : decode cX6_keep 19 = .ok (.iconst 0, 1) := by decide +kernel
theorem dX6_keep_20 : decode cX6_keep 20 = .ok (.istore_n 2, 1) := by decide +kernel
theorem dX6_keep_21 : decode cX6_keep 21 = .ok (.iload_n 2, 1) := by decide +kernel
theorem dX6_keep_22 : decode cX6_keep 22 = .ok (.sipush 214, 3) := by decide +kernel
theorem dX6_keep_25 : decode cX6_keep 25 = .ok (.if_icmp .ge 27, 3) := by decide +kernel
theorem dX6_keep_28 : decode cX6_keep 28 = .ok (.aload_n 0, 1) := by decide +kernel
theorem dX6_keep_29 : decode cX6_keep 29 = .ok (.getfield 22, 3) := by decide +kernel
theorem dX6_keep_32 : decode cX6_keep 32 = .ok (.sipush 214, 3) := by decide +kernel
theorem dX6_keep_35 : decode cX6_keep 35 = .ok (.iload_n 1, 1) := by decide +kernel
theorem dX6_keep_36 : decode cX6_keep 36 = .ok (.imul, 1) := by decide +kernel
theorem dX6_keep_37 : decode cX6_keep 37 = .ok (.iload_n 2, 1) := by decide +kernel
theorem dX6_keep_38 : decode cX6_keep 38 = .ok (.iadd, 1) := by decide +kernel
theorem dX6_keep_39 : decode cX6_keep 39 = .ok (.aload_n 0, 1) := by decide +kernel
theorem dX6_keep_40 : decode cX6_keep 40 = .ok (.getfield 13, 3) := by decide +kernel
theorem dX6_keep_43 : decode cX6_keep 43 = .ok (.iload_n 2, 1) := by decide +kernel
theorem dX6_keep_44 : decode cX6_keep 44 = .ok (.iaload, 1) := by decide +kernel
theorem dX6_keep_45 : decode cX6_keep 45 = .ok (.iastore, 1) := by decide +kernel
theorem dX6_keep_46 : decode cX6_keep 46 = .ok (.iinc 2 1, 3) := by decide +kernel
theorem dX6_keep_49 : decode cX6_keep 49 = .ok (.goto (-28), 3) := by decide +kernel
theorem dX6_keep_52 : decode cX6_keep 52 = .ok (.aload_n 0, 1) := by decide +kernel
theorem dX6_keep_53 : decode cX6_keep 53 = .ok (.getfield 13, 3) := by decide +kernel
theorem dX6_keep_56 : decode cX6_keep 56 = .ok (.bipush 82, 2) := by decide +kernel
theorem dX6_keep_58 : decode cX6_keep 58 = .ok (.iaload, 1) := by decide +kernel
theorem dX6_keep_59 : decode cX6_keep 59 = .ok (.ireturn, 1) := by decide +kernel
theorem dX6_again_0 : decode cX6_again 0 = .ok (.iload_n 1, 1) := by decide +kernel
theorem dX6_again_1 : decode cX6_again 1 = .ok (.i2l, 1) := by decide +kernel
theorem dX6_again_2 : decode cX6_again 2 = .ok (.lconst 0, 1) := by decide +kernel
theorem dX6_again_3 : decode cX6_again 3 = .ok (.lconst 1, 1) := by decide +kernel
theorem dX6_again_4 : decode cX6_again 4 = .ok (.invokestatic 64, 3) := by decide +kernel
theorem dX6_again_7 : decode cX6_again 7 = .ok (.ifCond .ne 5, 3) := by decide +kernel
theorem dX6_again_10 : decode cX6_again 10 = .ok (.iconst (-1), 1) := by decide +kernel
theorem dX6_again_11 : decode cX6_again 11 = .ok (.ireturn, 1) := by decide +kernel
theorem dX6_again_12 : decode cX6_again 12 = .ok (.aload_n 0, 1) := by decide +kernel
theorem dX6_again_13 : decode cX6_again 13 = .ok (.getfield 25, 3) := by decide +kernel
theorem dX6_again_16 : decode cX6_again 16 = .ok (.iload_n 1, 1) := by decide +kernel
theorem dX6_again_17 : decode cX6_again 17 = .ok (.baload, 1) := by decide +kernel
theorem dX6_again_18 : decode cX6_again 18 = .ok (.ifCond .ne 6, 3) := by decide +kernel
theorem dX6_again_21 : decode cX6_again 21 = .ok (.bipush (-3), 2) := by decide +kernel
theorem dX6_again_23 : decode cX6_again 23 = .ok (.ireturn, 1) := by decide +kernel
theorem dX6_again_24 : decode cX6_again 24 = .ok (.iconst 0, 1) := by decide +kernel
theorem dX6_again_25 : decode cX6_again 25 = .ok (.istore_n 2, 1) := by decide +kernel
theorem dX6_again_26 : decode cX6_again 26 = .ok (.iload_n 2, 1) := by decide +kernel
theorem dX6_again_27 : decode cX6_again 27 = .ok (.sipush 214, 3) := by decide +kernel
theorem dX6_again_30 : decode cX6_again 30 = .ok (.if_icmp .ge 27, 3) := by decide +kernel
theorem dX6_again_33 : decode cX6_again 33 = .ok (.aload_n 0, 1) := by decide +kernel
theorem dX6_again_34 : decode cX6_again 34 = .ok (.getfield 13, 3) := by decide +kernel
theorem dX6_again_37 : decode cX6_again 37 = .ok (.iload_n 2, 1) := by decide +kernel
theorem dX6_again_38 : decode cX6_again 38 = .ok (.aload_n 0, 1) := by decide +kernel
theorem dX6_again_39 : decode cX6_again 39 = .ok (.getfield 22, 3) := by decide +kernel
theorem dX6_again_42 : decode cX6_again 42 = .ok (.sipush 214, 3) := by decide +kernel
theorem dX6_again_45 : decode cX6_again 45 = .ok (.iload_n 1, 1) := by decide +kernel
theorem dX6_again_46 : decode cX6_again 46 = .ok (.imul, 1) := by decide +kernel
theorem dX6_again_47 : decode cX6_again 47 = .ok (.iload_n 2, 1) := by decide +kernel
theorem dX6_again_48 : decode cX6_again 48 = .ok (.iadd, 1) := by decide +kernel
theorem dX6_again_49 : decode cX6_again 49 = .ok (.iaload, 1) := by decide +kernel
theorem dX6_again_50 : decode cX6_again 50 = .ok (.iastore, 1) := by decide +kernel
theorem dX6_again_51 : decode cX6_again 51 = .ok (.iinc 2 1, 3) := by decide +kernel
theorem dX6_again_54 : decode cX6_again 54 = .ok (.goto (-28), 3) := by decide +kernel
theorem dX6_again_57 : decode cX6_again 57 = .ok (.aload_n 0, 1) := by decide +kernel
theorem dX6_again_58 : decode cX6_again 58 = .ok (.iconst 0, 1) := by decide +kernel
theorem dX6_again_59 : decode cX6_again 59 = .ok (.putfield 192, 3) := by decide +kernel
theorem dX6_again_62 : decode cX6_again 62 = .ok (.aload_n 0, 1) := by decide +kernel
theorem dX6_again_63 : decode cX6_again 63 = .ok (.getfield 13, 3) := by decide +kernel
theorem dX6_again_66 : decode cX6_again 66 = .ok (.bipush 82, 2) := by decide +kernel
theorem dX6_again_68 : decode cX6_again 68 = .ok (.iaload, 1) := by decide +kernel
theorem dX6_again_69 : decode cX6_again 69 = .ok (.ireturn, 1) := by decide +kernel
theorem dJ6_bitCount_0f7a4_0 : decode cJ6_bitCount_0f7a4 0 = .ok (.iload_n 0, 1) := by decide +kernel
theorem dJ6_bitCount_0f7a4_1 : decode cJ6_bitCount_0f7a4 1 = .ok (.iload_n 0, 1) := by decide +kernel
theorem dJ6_bitCount_0f7a4_2 : decode cJ6_bitCount_0f7a4 2 = .ok (.iconst 1, 1) := by decide +kernel
theorem dJ6_bitCount_0f7a4_3 : decode cJ6_bitCount_0f7a4 3 = .ok (.iushr, 1) := by decide +kernel
theorem dJ6_bitCount_0f7a4_4 : decode cJ6_bitCount_0f7a4 4 = .ok (.ldc_w 265, 3) := by decide +kernel
theorem dJ6_bitCount_0f7a4_7 : decode cJ6_bitCount_0f7a4 7 = .ok (.iand, 1) := by decide +kernel
theorem dJ6_bitCount_0f7a4_8 : decode cJ6_bitCount_0f7a4 8 = .ok (.isub, 1) := by decide +kernel
theorem dJ6_bitCount_0f7a4_9 : decode cJ6_bitCount_0f7a4 9 = .ok (.istore_n 0, 1) := by decide +kernel
theorem dJ6_bitCount_0f7a4_10 : decode cJ6_bitCount_0f7a4 10 = .ok (.iload_n 0, 1) := by decide +kernel
theorem dJ6_bitCount_0f7a4_11 : decode cJ6_bitCount_0f7a4 11 = .ok (.ldc_w 266, 3) := by decide +kernel
theorem dJ6_bitCount_0f7a4_14 : decode cJ6_bitCount_0f7a4 14 = .ok (.iand, 1) := by decide +kernel
theorem dJ6_bitCount_0f7a4_15 : decode cJ6_bitCount_0f7a4 15 = .ok (.iload_n 0, 1) := by decide +kernel
theorem dJ6_bitCount_0f7a4_16 : decode cJ6_bitCount_0f7a4 16 = .ok (.iconst 2, 1) := by decide +kernel
theorem dJ6_bitCount_0f7a4_17 : decode cJ6_bitCount_0f7a4 17 = .ok (.iushr, 1) := by decide +kernel
theorem dJ6_bitCount_0f7a4_18 : decode cJ6_bitCount_0f7a4 18 = .ok (.ldc_w 266, 3) := by decide +kernel
theorem dJ6_bitCount_0f7a4_21 : decode cJ6_bitCount_0f7a4 21 = .ok (.iand, 1) := by decide +kernel
theorem dJ6_bitCount_0f7a4_22 : decode cJ6_bitCount_0f7a4 22 = .ok (.iadd, 1) := by decide +kernel
theorem dJ6_bitCount_0f7a4_23 : decode cJ6_bitCount_0f7a4 23 = .ok (.istore_n 0, 1) := by decide +kernel
theorem dJ6_bitCount_0f7a4_24 : decode cJ6_bitCount_0f7a4 24 = .ok (.iload_n 0, 1) := by decide +kernel
theorem dJ6_bitCount_0f7a4_25 : decode cJ6_bitCount_0f7a4 25 = .ok (.iload_n 0, 1) := by decide +kernel
theorem dJ6_bitCount_0f7a4_26 : decode cJ6_bitCount_0f7a4 26 = .ok (.iconst 4, 1) := by decide +kernel
theorem dJ6_bitCount_0f7a4_27 : decode cJ6_bitCount_0f7a4 27 = .ok (.iushr, 1) := by decide +kernel
theorem dJ6_bitCount_0f7a4_28 : decode cJ6_bitCount_0f7a4 28 = .ok (.iadd, 1) := by decide +kernel
theorem dJ6_bitCount_0f7a4_29 : decode cJ6_bitCount_0f7a4 29 = .ok (.ldc_w 267, 3) := by decide +kernel
theorem dJ6_bitCount_0f7a4_32 : decode cJ6_bitCount_0f7a4 32 = .ok (.iand, 1) := by decide +kernel
theorem dJ6_bitCount_0f7a4_33 : decode cJ6_bitCount_0f7a4 33 = .ok (.istore_n 0, 1) := by decide +kernel
theorem dJ6_bitCount_0f7a4_34 : decode cJ6_bitCount_0f7a4 34 = .ok (.iload_n 0, 1) := by decide +kernel
theorem dJ6_bitCount_0f7a4_35 : decode cJ6_bitCount_0f7a4 35 = .ok (.iload_n 0, 1) := by decide +kernel
theorem dJ6_bitCount_0f7a4_36 : decode cJ6_bitCount_0f7a4 36 = .ok (.bipush 8, 2) := by decide +kernel
theorem dJ6_bitCount_0f7a4_38 : decode cJ6_bitCount_0f7a4 38 = .ok (.iushr, 1) := by decide +kernel
theorem dJ6_bitCount_0f7a4_39 : decode cJ6_bitCount_0f7a4 39 = .ok (.iadd, 1) := by decide +kernel
theorem dJ6_bitCount_0f7a4_40 : decode cJ6_bitCount_0f7a4 40 = .ok (.istore_n 0, 1) := by decide +kernel
theorem dJ6_bitCount_0f7a4_41 : decode cJ6_bitCount_0f7a4 41 = .ok (.iload_n 0, 1) := by decide +kernel
theorem dJ6_bitCount_0f7a4_42 : decode cJ6_bitCount_0f7a4 42 = .ok (.iload_n 0, 1) := by decide +kernel
theorem dJ6_bitCount_0f7a4_43 : decode cJ6_bitCount_0f7a4 43 = .ok (.bipush 16, 2) := by decide +kernel
theorem dJ6_bitCount_0f7a4_45 : decode cJ6_bitCount_0f7a4 45 = .ok (.iushr, 1) := by decide +kernel
theorem dJ6_bitCount_0f7a4_46 : decode cJ6_bitCount_0f7a4 46 = .ok (.iadd, 1) := by decide +kernel
theorem dJ6_bitCount_0f7a4_47 : decode cJ6_bitCount_0f7a4 47 = .ok (.istore_n 0, 1) := by decide +kernel
theorem dJ6_bitCount_0f7a4_48 : decode cJ6_bitCount_0f7a4 48 = .ok (.iload_n 0, 1) := by decide +kernel
theorem dJ6_bitCount_0f7a4_49 : decode cJ6_bitCount_0f7a4 49 = .ok (.bipush 63, 2) := by decide +kernel
theorem dJ6_bitCount_0f7a4_51 : decode cJ6_bitCount_0f7a4 51 = .ok (.iand, 1) := by decide +kernel
theorem dJ6_bitCount_0f7a4_52 : decode cJ6_bitCount_0f7a4 52 = .ok (.ireturn, 1) := by decide +kernel
theorem dJ9_max_7cf53_0 : decode cJ9_max_7cf53 0 = .ok (.iload_n 0, 1) := by decide +kernel
theorem dJ9_max_7cf53_1 : decode cJ9_max_7cf53 1 = .ok (.iload_n 1, 1) := by decide +kernel
theorem dJ9_max_7cf53_2 : decode cJ9_max_7cf53 2 = .ok (.if_icmp .lt 7, 3) := by decide +kernel
theorem dJ9_max_7cf53_5 : decode cJ9_max_7cf53 5 = .ok (.iload_n 0, 1) := by decide +kernel
theorem dJ9_max_7cf53_6 : decode cJ9_max_7cf53 6 = .ok (.goto 4, 3) := by decide +kernel
theorem dJ9_max_7cf53_9 : decode cJ9_max_7cf53 9 = .ok (.iload_n 1, 1) := by decide +kernel
theorem dJ9_max_7cf53_10 : decode cJ9_max_7cf53 10 = .ok (.ireturn, 1) := by decide +kernel
theorem dJ9_min_7cf53_0 : decode cJ9_min_7cf53 0 = .ok (.iload_n 0, 1) := by decide +kernel
theorem dJ9_min_7cf53_1 : decode cJ9_min_7cf53 1 = .ok (.iload_n 1, 1) := by decide +kernel
theorem dJ9_min_7cf53_2 : decode cJ9_min_7cf53 2 = .ok (.if_icmp .gt 7, 3) := by decide +kernel
theorem dJ9_min_7cf53_5 : decode cJ9_min_7cf53 5 = .ok (.iload_n 0, 1) := by decide +kernel
theorem dJ9_min_7cf53_6 : decode cJ9_min_7cf53 6 = .ok (.goto 4, 3) := by decide +kernel
theorem dJ9_min_7cf53_9 : decode cJ9_min_7cf53 9 = .ok (.iload_n 1, 1) := by decide +kernel
theorem dJ9_min_7cf53_10 : decode cJ9_min_7cf53 10 = .ok (.ireturn, 1) := by decide +kernel
theorem dL_law_0 : decode cL_law 0 = .ok (.new 7, 3) := by decide +kernel
theorem dL_law_3 : decode cL_law 3 = .ok (.dup, 1) := by decide +kernel
theorem dL_law_4 : decode cL_law 4 = .ok (.invokespecial 9, 3) := by decide +kernel
theorem dL_law_7 : decode cL_law 7 = .ok (.astore_n 1, 1) := by decide +kernel
theorem dL_law_8 : decode cL_law 8 = .ok (.new 10, 3) := by decide +kernel
theorem dL_law_11 : decode cL_law 11 = .ok (.dup, 1) := by decide +kernel
theorem dL_law_12 : decode cL_law 12 = .ok (.invokespecial 12, 3) := by decide +kernel
theorem dL_law_15 : decode cL_law 15 = .ok (.astore_n 2, 1) := by decide +kernel
theorem dL_law_16 : decode cL_law 16 = .ok (.iconst 0, 1) := by decide +kernel
theorem dL_law_17 : decode cL_law 17 = .ok (.istore_n 3, 1) := by decide +kernel
theorem dL_law_18 : decode cL_law 18 = .ok (.iload_n 3, 1) := by decide +kernel
theorem dL_law_19 : decode cL_law 19 = .ok (.aload_n 0, 1) := by decide +kernel
theorem dL_law_20 : decode cL_law 20 = .ok (.arraylength, 1) := by decide +kernel
theorem dL_law_21 : decode cL_law 21 = .ok (.iconst 4, 1) := by decide +kernel
theorem dL_law_22 : decode cL_law 22 = .ok (.isub, 1) := by decide +kernel
theorem dL_law_23 : decode cL_law 23 = .ok (.if_icmp .gt 986, 3) := by decide +kernel
theorem dL_law_26 : decode cL_law 26 = .ok (.aload_n 0, 1) := by decide +kernel
theorem dL_law_27 : decode cL_law 27 = .ok (.iload_n 3, 1) := by decide +kernel
theorem dL_law_28 : decode cL_law 28 = .ok (.iaload, 1) := by decide +kernel
theorem dL_law_29 : decode cL_law 29 = .ok (.bipush 31, 2) := by decide +kernel
theorem dL_law_31 : decode cL_law 31 = .ok (.iand, 1) := by decide +kernel
theorem dL_law_32 : decode cL_law 32 = .ok (.tableswitch 971 0 27 #[128, 151, 164, 177, 190, 213, 246, 279, 312, 345, 378, 437, 460, 473, 496, 559, 572, 585, 618, 681, 714, 727, 740, 789, 848, 902, 925, 948], 128) := by decide +kernel
theorem dL_law_160 : decode cL_law 160 = .ok (.aload_n 1, 1) := by decide +kernel
theorem dL_law_161 : decode cL_law 161 = .ok (.aload_n 0, 1) := by decide +kernel
theorem dL_law_162 : decode cL_law 162 = .ok (.iload_n 3, 1) := by decide +kernel
theorem dL_law_163 : decode cL_law 163 = .ok (.iconst 1, 1) := by decide +kernel
theorem dL_law_164 : decode cL_law 164 = .ok (.iadd, 1) := by decide +kernel
theorem dL_law_165 : decode cL_law 165 = .ok (.iaload, 1) := by decide +kernel
theorem dL_law_166 : decode cL_law 166 = .ok (.invokevirtual 13, 3) := by decide +kernel
theorem dL_law_169 : decode cL_law 169 = .ok (.aload_n 2, 1) := by decide +kernel
theorem dL_law_170 : decode cL_law 170 = .ok (.aload_n 0, 1) := by decide +kernel
theorem dL_law_171 : decode cL_law 171 = .ok (.iload_n 3, 1) := by decide +kernel
theorem dL_law_172 : decode cL_law 172 = .ok (.iconst 1, 1) := by decide +kernel
theorem dL_law_173 : decode cL_law 173 = .ok (.iadd, 1) := by decide +kernel
theorem dL_law_174 : decode cL_law 174 = .ok (.iaload, 1) := by decide +kernel
theorem dL_law_175 : decode cL_law 175 = .ok (.invokevirtual 17, 3) := by decide +kernel
theorem dL_law_178 : decode cL_law 178 = .ok (.if_icmp .eq 825, 3) := by decide +kernel
theorem dL_law_181 : decode cL_law 181 = .ok (.iconst 0, 1) := by decide +kernel
theorem dL_law_182 : decode cL_law 182 = .ok (.ireturn, 1) := by decide +kernel
theorem dL_law_183 : decode cL_law 183 = .ok (.aload_n 1, 1) := by decide +kernel
theorem dL_law_184 : decode cL_law 184 = .ok (.invokevirtual 18, 3) := by decide +kernel
theorem dL_law_187 : decode cL_law 187 = .ok (.aload_n 2, 1) := by decide +kernel
theorem dL_law_188 : decode cL_law 188 = .ok (.invokevirtual 22, 3) := by decide +kernel
theorem dL_law_191 : decode cL_law 191 = .ok (.if_icmp .eq 812, 3) := by decide +kernel
theorem dL_law_194 : decode cL_law 194 = .ok (.iconst 0, 1) := by decide +kernel
theorem dL_law_195 : decode cL_law 195 = .ok (.ireturn, 1) := by decide +kernel
theorem dL_law_196 : decode cL_law 196 = .ok (.aload_n 1, 1) := by decide +kernel
theorem dL_law_197 : decode cL_law 197 = .ok (.invokevirtual 23, 3) := by decide +kernel
theorem dL_law_200 : decode cL_law 200 = .ok (.aload_n 2, 1) := by decide +kernel
theorem dL_law_201 : decode cL_law 201 = .ok (.invokevirtual 26, 3) := by decide +kernel
theorem dL_law_204 : decode cL_law 204 = .ok (.if_icmp .eq 799, 3) := by decide +kernel
theorem dL_law_207 : decode cL_law 207 = .ok (.iconst 0, 1) := by decide +kernel
theorem dL_law_208 : decode cL_law 208 = .ok (.ireturn, 1) := by decide +kernel
theorem dL_law_209 : decode cL_law 209 = .ok (.aload_n 1, 1) := by decide +kernel
theorem dL_law_210 : decode cL_law 210 = .ok (.invokevirtual 27, 3) := by decide +kernel
theorem dL_law_213 : decode cL_law 213 = .ok (.aload_n 2, 1) := by decide +kernel
theorem dL_law_214 : decode cL_law 214 = .ok (.invokevirtual 30, 3) := by decide +kernel
theorem dL_law_217 : decode cL_law 217 = .ok (.if_icmp .eq 786, 3) := by decide +kernel
theorem dL_law_220 : decode cL_law 220 = .ok (.iconst 0, 1) := by decide +kernel
theorem dL_law_221 : decode cL_law 221 = .ok (.ireturn, 1) := by decide +kernel
theorem dL_law_222 : decode cL_law 222 = .ok (.aload_n 1, 1) := by decide +kernel
theorem dL_law_223 : decode cL_law 223 = .ok (.aload_n 0, 1) := by decide +kernel
theorem dL_law_224 : decode cL_law 224 = .ok (.iload_n 3, 1) := by decide +kernel
theorem dL_law_225 : decode cL_law 225 = .ok (.iconst 1, 1) := by decide +kernel
theorem dL_law_226 : decode cL_law 226 = .ok (.iadd, 1) := by decide +kernel
theorem dL_law_227 : decode cL_law 227 = .ok (.iaload, 1) := by decide +kernel
theorem dL_law_228 : decode cL_law 228 = .ok (.invokevirtual 31, 3) := by decide +kernel
theorem dL_law_231 : decode cL_law 231 = .ok (.aload_n 2, 1) := by decide +kernel
theorem dL_law_232 : decode cL_law 232 = .ok (.aload_n 0, 1) := by decide +kernel
theorem dL_law_233 : decode cL_law 233 = .ok (.iload_n 3, 1) := by decide +kernel
theorem dL_law_234 : decode cL_law 234 = .ok (.iconst 1, 1) := by decide +kernel
theorem dL_law_235 : decode cL_law 235 = .ok (.iadd, 1) := by decide +kernel
theorem dL_law_236 : decode cL_law 236 = .ok (.iaload, 1) := by decide +kernel
theorem dL_law_237 : decode cL_law 237 = .ok (.invokevirtual 34, 3) := by decide +kernel
theorem dL_law_240 : decode cL_law 240 = .ok (.if_icmp .eq 763, 3) := by decide +kernel
theorem dL_law_243 : decode cL_law 243 = .ok (.iconst 0, 1) := by decide +kernel
theorem dL_law_244 : decode cL_law 244 = .ok (.ireturn, 1) := by decide +kernel
theorem dL_law_245 : decode cL_law 245 = .ok (.aload_n 1, 1) := by decide +kernel
theorem dL_law_246 : decode cL_law 246 = .ok (.aload_n 0, 1) := by decide +kernel
theorem dL_law_247 : decode cL_law 247 = .ok (.iload_n 3, 1) := by decide +kernel
theorem dL_law_248 : decode cL_law 248 = .ok (.iconst 1, 1) := by decide +kernel
theorem dL_law_249 : decode cL_law 249 = .ok (.iadd, 1) := by decide +kernel
theorem dL_law_250 : decode cL_law 250 = .ok (.iaload, 1) := by decide +kernel
theorem dL_law_251 : decode cL_law 251 = .ok (.aload_n 0, 1) := by decide +kernel
theorem dL_law_252 : decode cL_law 252 = .ok (.iload_n 3, 1) := by decide +kernel
theorem dL_law_253 : decode cL_law 253 = .ok (.iconst 2, 1) := by decide +kernel
theorem dL_law_254 : decode cL_law 254 = .ok (.iadd, 1) := by decide +kernel
theorem dL_law_255 : decode cL_law 255 = .ok (.iaload, 1) := by decide +kernel
theorem dL_law_256 : decode cL_law 256 = .ok (.invokevirtual 35, 3) := by decide +kernel
theorem dL_law_259 : decode cL_law 259 = .ok (.aload_n 2, 1) := by decide +kernel
theorem dL_law_260 : decode cL_law 260 = .ok (.aload_n 0, 1) := by decide +kernel
theorem dL_law_261 : decode cL_law 261 = .ok (.iload_n 3, 1) := by decide +kernel
theorem dL_law_262 : decode cL_law 262 = .ok (.iconst 1, 1) := by decide +kernel
theorem dL_law_263 : decode cL_law 263 = .ok (.iadd, 1) := by decide +kernel
theorem dL_law_264 : decode cL_law 264 = .ok (.iaload, 1) := by decide +kernel
theorem dL_law_265 : decode cL_law 265 = .ok (.aload_n 0, 1) := by decide +kernel
theorem dL_law_266 : decode cL_law 266 = .ok (.iload_n 3, 1) := by decide +kernel
theorem dL_law_267 : decode cL_law 267 = .ok (.iconst 2, 1) := by decide +kernel
theorem dL_law_268 : decode cL_law 268 = .ok (.iadd, 1) := by decide +kernel
theorem dL_law_269 : decode cL_law 269 = .ok (.iaload, 1) := by decide +kernel
theorem dL_law_270 : decode cL_law 270 = .ok (.invokevirtual 39, 3) := by decide +kernel
theorem dL_law_273 : decode cL_law 273 = .ok (.if_icmp .eq 730, 3) := by decide +kernel
theorem dL_law_276 : decode cL_law 276 = .ok (.iconst 0, 1) := by decide +kernel
theorem dL_law_277 : decode cL_law 277 = .ok (.ireturn, 1) := by decide +kernel
theorem dL_law_278 : decode cL_law 278 = .ok (.aload_n 1, 1) := by decide +kernel
theorem dL_law_279 : decode cL_law 279 = .ok (.aload_n 0, 1) := by decide +kernel
theorem dL_law_280 : decode cL_law 280 = .ok (.iload_n 3, 1) := by decide +kernel
theorem dL_law_281 : decode cL_law 281 = .ok (.iconst 1, 1) := by decide +kernel
theorem dL_law_282 : decode cL_law 282 = .ok (.iadd, 1) := by decide +kernel
theorem dL_law_283 : decode cL_law 283 = .ok (.iaload, 1) := by decide +kernel
theorem dL_law_284 : decode cL_law 284 = .ok (.aload_n 0, 1) := by decide +kernel
theorem dL_law_285 : decode cL_law 285 = .ok (.iload_n 3, 1) := by decide +kernel
theorem dL_law_286 : decode cL_law 286 = .ok (.iconst 2, 1) := by decide +kernel
theorem dL_law_287 : decode cL_law 287 = .ok (.iadd, 1) := by decide +kernel
theorem dL_law_288 : decode cL_law 288 = .ok (.iaload, 1) := by decide +kernel
theorem dL_law_289 : decode cL_law 289 = .ok (.invokevirtual 40, 3) := by decide +kernel
theorem dL_law_292 : decode cL_law 292 = .ok (.aload_n 2, 1) := by decide +kernel
theorem dL_law_293 : decode cL_law 293 = .ok (.aload_n 0, 1) := by decide +kernel
theorem dL_law_294 : decode cL_law 294 = .ok (.iload_n 3, 1) := by decide +kernel
theorem dL_law_295 : decode cL_law 295 = .ok (.iconst 1, 1) := by decide +kernel
theorem dL_law_296 : decode cL_law 296 = .ok (.iadd, 1) := by decide +kernel
theorem dL_law_297 : decode cL_law 297 = .ok (.iaload, 1) := by decide +kernel
theorem dL_law_298 : decode cL_law 298 = .ok (.aload_n 0, 1) := by decide +kernel
theorem dL_law_299 : decode cL_law 299 = .ok (.iload_n 3, 1) := by decide +kernel
theorem dL_law_300 : decode cL_law 300 = .ok (.iconst 2, 1) := by decide +kernel
theorem dL_law_301 : decode cL_law 301 = .ok (.iadd, 1) := by decide +kernel
theorem dL_law_302 : decode cL_law 302 = .ok (.iaload, 1) := by decide +kernel
theorem dL_law_303 : decode cL_law 303 = .ok (.invokevirtual 43, 3) := by decide +kernel
theorem dL_law_306 : decode cL_law 306 = .ok (.if_icmp .eq 697, 3) := by decide +kernel
theorem dL_law_309 : decode cL_law 309 = .ok (.iconst 0, 1) := by decide +kernel
theorem dL_law_310 : decode cL_law 310 = .ok (.ireturn, 1) := by decide +kernel
theorem dL_law_311 : decode cL_law 311 = .ok (.aload_n 1, 1) := by decide +kernel
theorem dL_law_312 : decode cL_law 312 = .ok (.aload_n 0, 1) := by decide +kernel
theorem dL_law_313 : decode cL_law 313 = .ok (.iload_n 3, 1) := by decide +kernel
theorem dL_law_314 : decode cL_law 314 = .ok (.iconst 1, 1) := by decide +kernel
theorem dL_law_315 : decode cL_law 315 = .ok (.iadd, 1) := by decide +kernel
theorem dL_law_316 : decode cL_law 316 = .ok (.iaload, 1) := by decide +kernel
theorem dL_law_317 : decode cL_law 317 = .ok (.aload_n 0, 1) := by decide +kernel
theorem dL_law_318 : decode cL_law 318 = .ok (.iload_n 3, 1) := by decide +kernel
theorem dL_law_319 : decode cL_law 319 = .ok (.iconst 2, 1) := by decide +kernel
theorem dL_law_320 : decode cL_law 320 = .ok (.iadd, 1) := by decide +kernel
theorem dL_law_321 : decode cL_law 321 = .ok (.iaload, 1) := by decide +kernel
theorem dL_law_322 : decode cL_law 322 = .ok (.invokevirtual 44, 3) := by decide +kernel
theorem dL_law_325 : decode cL_law 325 = .ok (.aload_n 2, 1) := by decide +kernel
theorem dL_law_326 : decode cL_law 326 = .ok (.aload_n 0, 1) := by decide +kernel
theorem dL_law_327 : decode cL_law 327 = .ok (.iload_n 3, 1) := by decide +kernel
theorem dL_law_328 : decode cL_law 328 = .ok (.iconst 1, 1) := by decide +kernel
theorem dL_law_329 : decode cL_law 329 = .ok (.iadd, 1) := by decide +kernel
theorem dL_law_330 : decode cL_law 330 = .ok (.iaload, 1) := by decide +kernel
theorem dL_law_331 : decode cL_law 331 = .ok (.aload_n 0, 1) := by decide +kernel
theorem dL_law_332 : decode cL_law 332 = .ok (.iload_n 3, 1) := by decide +kernel
theorem dL_law_333 : decode cL_law 333 = .ok (.iconst 2, 1) := by decide +kernel
theorem dL_law_334 : decode cL_law 334 = .ok (.iadd, 1) := by decide +kernel
theorem dL_law_335 : decode cL_law 335 = .ok (.iaload, 1) := by decide +kernel
theorem dL_law_336 : decode cL_law 336 = .ok (.invokevirtual 47, 3) := by decide +kernel
theorem dL_law_339 : decode cL_law 339 = .ok (.if_icmp .eq 664, 3) := by decide +kernel
theorem dL_law_342 : decode cL_law 342 = .ok (.iconst 0, 1) := by decide +kernel
theorem dL_law_343 : decode cL_law 343 = .ok (.ireturn, 1) := by decide +kernel
theorem dL_law_344 : decode cL_law 344 = .ok (.aload_n 1, 1) := by decide +kernel
theorem dL_law_345 : decode cL_law 345 = .ok (.aload_n 0, 1) := by decide +kernel
theorem dL_law_346 : decode cL_law 346 = .ok (.iload_n 3, 1) := by decide +kernel
theorem dL_law_347 : decode cL_law 347 = .ok (.iconst 1, 1) := by decide +kernel
theorem dL_law_348 : decode cL_law 348 = .ok (.iadd, 1) := by decide +kernel
theorem dL_law_349 : decode cL_law 349 = .ok (.iaload, 1) := by decide +kernel
theorem dL_law_350 : decode cL_law 350 = .ok (.aload_n 0, 1) := by decide +kernel
theorem dL_law_351 : decode cL_law 351 = .ok (.iload_n 3, 1) := by decide +kernel
theorem dL_law_352 : decode cL_law 352 = .ok (.iconst 2, 1) := by decide +kernel
theorem dL_law_353 : decode cL_law 353 = .ok (.iadd, 1) := by decide +kernel
theorem dL_law_354 : decode cL_law 354 = .ok (.iaload, 1) := by decide +kernel
theorem dL_law_355 : decode cL_law 355 = .ok (.invokevirtual 48, 3) := by decide +kernel
theorem dL_law_358 : decode cL_law 358 = .ok (.aload_n 2, 1) := by decide +kernel
theorem dL_law_359 : decode cL_law 359 = .ok (.aload_n 0, 1) := by decide +kernel
theorem dL_law_360 : decode cL_law 360 = .ok (.iload_n 3, 1) := by decide +kernel
theorem dL_law_361 : decode cL_law 361 = .ok (.iconst 1, 1) := by decide +kernel
theorem dL_law_362 : decode cL_law 362 = .ok (.iadd, 1) := by decide +kernel
theorem dL_law_363 : decode cL_law 363 = .ok (.iaload, 1) := by decide +kernel
theorem dL_law_364 : decode cL_law 364 = .ok (.aload_n 0, 1) := by decide +kernel
theorem dL_law_365 : decode cL_law 365 = .ok (.iload_n 3, 1) := by decide +kernel
theorem dL_law_366 : decode cL_law 366 = .ok (.iconst 2, 1) := by decide +kernel
theorem dL_law_367 : decode cL_law 367 = .ok (.iadd, 1) := by decide +kernel
theorem dL_law_368 : decode cL_law 368 = .ok (.iaload, 1) := by decide +kernel
theorem dL_law_369 : decode cL_law 369 = .ok (.invokevirtual 51, 3) := by decide +kernel
theorem dL_law_372 : decode cL_law 372 = .ok (.if_icmp .eq 631, 3) := by decide +kernel
theorem dL_law_375 : decode cL_law 375 = .ok (.iconst 0, 1) := by decide +kernel
theorem dL_law_376 : decode cL_law 376 = .ok (.ireturn, 1) := by decide +kernel
theorem dL_law_377 : decode cL_law 377 = .ok (.aload_n 1, 1) := by decide +kernel
theorem dL_law_378 : decode cL_law 378 = .ok (.aload_n 0, 1) := by decide +kernel
theorem dL_law_379 : decode cL_law 379 = .ok (.iload_n 3, 1) := by decide +kernel
theorem dL_law_380 : decode cL_law 380 = .ok (.iconst 1, 1) := by decide +kernel
theorem dL_law_381 : decode cL_law 381 = .ok (.iadd, 1) := by decide +kernel
theorem dL_law_382 : decode cL_law 382 = .ok (.iaload, 1) := by decide +kernel
theorem dL_law_383 : decode cL_law 383 = .ok (.aload_n 0, 1) := by decide +kernel
theorem dL_law_384 : decode cL_law 384 = .ok (.iload_n 3, 1) := by decide +kernel
theorem dL_law_385 : decode cL_law 385 = .ok (.iconst 2, 1) := by decide +kernel
theorem dL_law_386 : decode cL_law 386 = .ok (.iadd, 1) := by decide +kernel
theorem dL_law_387 : decode cL_law 387 = .ok (.iaload, 1) := by decide +kernel
theorem dL_law_388 : decode cL_law 388 = .ok (.invokevirtual 52, 3) := by decide +kernel
theorem dL_law_391 : decode cL_law 391 = .ok (.aload_n 2, 1) := by decide +kernel
theorem dL_law_392 : decode cL_law 392 = .ok (.aload_n 0, 1) := by decide +kernel
theorem dL_law_393 : decode cL_law 393 = .ok (.iload_n 3, 1) := by decide +kernel
theorem dL_law_394 : decode cL_law 394 = .ok (.iconst 1, 1) := by decide +kernel
theorem dL_law_395 : decode cL_law 395 = .ok (.iadd, 1) := by decide +kernel
theorem dL_law_396 : decode cL_law 396 = .ok (.iaload, 1) := by decide +kernel
theorem dL_law_397 : decode cL_law 397 = .ok (.aload_n 0, 1) := by decide +kernel
theorem dL_law_398 : decode cL_law 398 = .ok (.iload_n 3, 1) := by decide +kernel
theorem dL_law_399 : decode cL_law 399 = .ok (.iconst 2, 1) := by decide +kernel
theorem dL_law_400 : decode cL_law 400 = .ok (.iadd, 1) := by decide +kernel
theorem dL_law_401 : decode cL_law 401 = .ok (.iaload, 1) := by decide +kernel
theorem dL_law_402 : decode cL_law 402 = .ok (.invokevirtual 55, 3) := by decide +kernel
theorem dL_law_405 : decode cL_law 405 = .ok (.if_icmp .eq 598, 3) := by decide +kernel
theorem dL_law_408 : decode cL_law 408 = .ok (.iconst 0, 1) := by decide +kernel
theorem dL_law_409 : decode cL_law 409 = .ok (.ireturn, 1) := by decide +kernel
theorem dL_law_410 : decode cL_law 410 = .ok (.aload_n 1, 1) := by decide +kernel
theorem dL_law_411 : decode cL_law 411 = .ok (.aload_n 0, 1) := by decide +kernel
theorem dL_law_412 : decode cL_law 412 = .ok (.iload_n 3, 1) := by decide +kernel
theorem dL_law_413 : decode cL_law 413 = .ok (.iconst 1, 1) := by decide +kernel
theorem dL_law_414 : decode cL_law 414 = .ok (.iadd, 1) := by decide +kernel
theorem dL_law_415 : decode cL_law 415 = .ok (.iaload, 1) := by decide +kernel
theorem dL_law_416 : decode cL_law 416 = .ok (.aload_n 0, 1) := by decide +kernel
theorem dL_law_417 : decode cL_law 417 = .ok (.iload_n 3, 1) := by decide +kernel
theorem dL_law_418 : decode cL_law 418 = .ok (.iconst 2, 1) := by decide +kernel
theorem dL_law_419 : decode cL_law 419 = .ok (.iadd, 1) := by decide +kernel
theorem dL_law_420 : decode cL_law 420 = .ok (.iaload, 1) := by decide +kernel
theorem dL_law_421 : decode cL_law 421 = .ok (.aload_n 0, 1) := by decide +kernel
theorem dL_law_422 : decode cL_law 422 = .ok (.iload_n 3, 1) := by decide +kernel
theorem dL_law_423 : decode cL_law 423 = .ok (.iconst 3, 1) := by decide +kernel
theorem dL_law_424 : decode cL_law 424 = .ok (.iadd, 1) := by decide +kernel
theorem dL_law_425 : decode cL_law 425 = .ok (.iaload, 1) := by decide +kernel
theorem dL_law_426 : decode cL_law 426 = .ok (.ifCond .eq 7, 3) := by decide +kernel
theorem dL_law_429 : decode cL_law 429 = .ok (.iconst 1, 1) := by decide +kernel
theorem dL_law_430 : decode cL_law 430 = .ok (.goto 4, 3) := by decide +kernel
theorem dL_law_433 : decode cL_law 433 = .ok (.iconst 0, 1) := by decide +kernel
theorem dL_law_434 : decode cL_law 434 = .ok (.invokevirtual 56, 3) := by decide +kernel
theorem dL_law_437 : decode cL_law 437 = .ok (.aload_n 2, 1) := by decide +kernel
theorem dL_law_438 : decode cL_law 438 = .ok (.aload_n 0, 1) := by decide +kernel
theorem dL_law_439 : decode cL_law 439 = .ok (.iload_n 3, 1) := by decide +kernel
theorem dL_law_440 : decode cL_law 440 = .ok (.iconst 1, 1) := by decide +kernel
theorem dL_law_441 : decode cL_law 441 = .ok (.iadd, 1) := by decide +kernel
theorem dL_law_442 : decode cL_law 442 = .ok (.iaload, 1) := by decide +kernel
theorem dL_law_443 : decode cL_law 443 = .ok (.aload_n 0, 1) := by decide +kernel
theorem dL_law_444 : decode cL_law 444 = .ok (.iload_n 3, 1) := by decide +kernel
theorem dL_law_445 : decode cL_law 445 = .ok (.iconst 2, 1) := by decide +kernel
theorem dL_law_446 : decode cL_law 446 = .ok (.iadd, 1) := by decide +kernel
theorem dL_law_447 : decode cL_law 447 = .ok (.iaload, 1) := by decide +kernel
theorem dL_law_448 : decode cL_law 448 = .ok (.aload_n 0, 1) := by decide +kernel
theorem dL_law_449 : decode cL_law 449 = .ok (.iload_n 3, 1) := by decide +kernel
theorem dL_law_450 : decode cL_law 450 = .ok (.iconst 3, 1) := by decide +kernel
theorem dL_law_451 : decode cL_law 451 = .ok (.iadd, 1) := by decide +kernel
theorem dL_law_452 : decode cL_law 452 = .ok (.iaload, 1) := by decide +kernel
theorem dL_law_453 : decode cL_law 453 = .ok (.ifCond .eq 7, 3) := by decide +kernel
theorem dL_law_456 : decode cL_law 456 = .ok (.iconst 1, 1) := by decide +kernel
theorem dL_law_457 : decode cL_law 457 = .ok (.goto 4, 3) := by decide +kernel
theorem dL_law_460 : decode cL_law 460 = .ok (.iconst 0, 1) := by decide +kernel
theorem dL_law_461 : decode cL_law 461 = .ok (.invokevirtual 60, 3) := by decide +kernel
theorem dL_law_464 : decode cL_law 464 = .ok (.if_icmp .eq 539, 3) := by decide +kernel
theorem dL_law_467 : decode cL_law 467 = .ok (.iconst 0, 1) := by decide +kernel
theorem dL_law_468 : decode cL_law 468 = .ok (.ireturn, 1) := by decide +kernel
theorem dL_law_469 : decode cL_law 469 = .ok (.aload_n 1, 1) := by decide +kernel
theorem dL_law_470 : decode cL_law 470 = .ok (.aload_n 0, 1) := by decide +kernel
theorem dL_law_471 : decode cL_law 471 = .ok (.iload_n 3, 1) := by decide +kernel
theorem dL_law_472 : decode cL_law 472 = .ok (.iconst 1, 1) := by decide +kernel
theorem dL_law_473 : decode cL_law 473 = .ok (.iadd, 1) := by decide +kernel
theorem dL_law_474 : decode cL_law 474 = .ok (.iaload, 1) := by decide +kernel
theorem dL_law_475 : decode cL_law 475 = .ok (.invokevirtual 61, 3) := by decide +kernel
theorem dL_law_478 : decode cL_law 478 = .ok (.aload_n 2, 1) := by decide +kernel
theorem dL_law_479 : decode cL_law 479 = .ok (.aload_n 0, 1) := by decide +kernel
theorem dL_law_480 : decode cL_law 480 = .ok (.iload_n 3, 1) := by decide +kernel
theorem dL_law_481 : decode cL_law 481 = .ok (.iconst 1, 1) := by decide +kernel
theorem dL_law_482 : decode cL_law 482 = .ok (.iadd, 1) := by decide +kernel
theorem dL_law_483 : decode cL_law 483 = .ok (.iaload, 1) := by decide +kernel
theorem dL_law_484 : decode cL_law 484 = .ok (.invokevirtual 64, 3) := by decide +kernel
theorem dL_law_487 : decode cL_law 487 = .ok (.if_icmp .eq 516, 3) := by decide +kernel
theorem dL_law_490 : decode cL_law 490 = .ok (.iconst 0, 1) := by decide +kernel
theorem dL_law_491 : decode cL_law 491 = .ok (.ireturn, 1) := by decide +kernel
theorem dL_law_492 : decode cL_law 492 = .ok (.aload_n 1, 1) := by decide +kernel
theorem dL_law_493 : decode cL_law 493 = .ok (.invokevirtual 65, 3) := by decide +kernel
theorem dL_law_496 : decode cL_law 496 = .ok (.aload_n 2, 1) := by decide +kernel
theorem dL_law_497 : decode cL_law 497 = .ok (.invokevirtual 68, 3) := by decide +kernel
theorem dL_law_500 : decode cL_law 500 = .ok (.if_icmp .eq 503, 3) := by decide +kernel
theorem dL_law_503 : decode cL_law 503 = .ok (.iconst 0, 1) := by decide +kernel
theorem dL_law_504 : decode cL_law 504 = .ok (.ireturn, 1) := by decide +kernel
theorem dL_law_505 : decode cL_law 505 = .ok (.aload_n 1, 1) := by decide +kernel
theorem dL_law_506 : decode cL_law 506 = .ok (.aload_n 0, 1) := by decide +kernel
theorem dL_law_507 : decode cL_law 507 = .ok (.iload_n 3, 1) := by decide +kernel
theorem dL_law_508 : decode cL_law 508 = .ok (.iconst 1, 1) := by decide +kernel
theorem dL_law_509 : decode cL_law 509 = .ok (.iadd, 1) := by decide +kernel
theorem dL_law_510 : decode cL_law 510 = .ok (.iaload, 1) := by decide +kernel
theorem dL_law_511 : decode cL_law 511 = .ok (.invokevirtual 69, 3) := by decide +kernel
theorem dL_law_514 : decode cL_law 514 = .ok (.aload_n 2, 1) := by decide +kernel
theorem dL_law_515 : decode cL_law 515 = .ok (.aload_n 0, 1) := by decide +kernel
theorem dL_law_516 : decode cL_law 516 = .ok (.iload_n 3, 1) := by decide +kernel
theorem dL_law_517 : decode cL_law 517 = .ok (.iconst 1, 1) := by decide +kernel
theorem dL_law_518 : decode cL_law 518 = .ok (.iadd, 1) := by decide +kernel
theorem dL_law_519 : decode cL_law 519 = .ok (.iaload, 1) := by decide +kernel
theorem dL_law_520 : decode cL_law 520 = .ok (.invokevirtual 72, 3) := by decide +kernel
theorem dL_law_523 : decode cL_law 523 = .ok (.if_icmp .eq 480, 3) := by decide +kernel
theorem dL_law_526 : decode cL_law 526 = .ok (.iconst 0, 1) := by decide +kernel
theorem dL_law_527 : decode cL_law 527 = .ok (.ireturn, 1) := by decide +kernel
theorem dL_law_528 : decode cL_law 528 = .ok (.aload_n 1, 1) := by decide +kernel
theorem dL_law_529 : decode cL_law 529 = .ok (.aload_n 0, 1) := by decide +kernel
theorem dL_law_530 : decode cL_law 530 = .ok (.iload_n 3, 1) := by decide +kernel
theorem dL_law_531 : decode cL_law 531 = .ok (.iconst 1, 1) := by decide +kernel
theorem dL_law_532 : decode cL_law 532 = .ok (.iadd, 1) := by decide +kernel
theorem dL_law_533 : decode cL_law 533 = .ok (.iaload, 1) := by decide +kernel
theorem dL_law_534 : decode cL_law 534 = .ok (.aload_n 0, 1) := by decide +kernel
theorem dL_law_535 : decode cL_law 535 = .ok (.iload_n 3, 1) := by decide +kernel
theorem dL_law_536 : decode cL_law 536 = .ok (.iconst 2, 1) := by decide +kernel
theorem dL_law_537 : decode cL_law 537 = .ok (.iadd, 1) := by decide +kernel
theorem dL_law_538 : decode cL_law 538 = .ok (.iaload, 1) := by decide +kernel
theorem dL_law_539 : decode cL_law 539 = .ok (.i2l, 1) := by decide +kernel
theorem dL_law_540 : decode cL_law 540 = .ok (.bipush 32, 2) := by decide +kernel
theorem dL_law_542 : decode cL_law 542 = .ok (.lshl, 1) := by decide +kernel
theorem dL_law_543 : decode cL_law 543 = .ok (.aload_n 0, 1) := by decide +kernel
theorem dL_law_544 : decode cL_law 544 = .ok (.iload_n 3, 1) := by decide +kernel
theorem dL_law_545 : decode cL_law 545 = .ok (.iconst 3, 1) := by decide +kernel
theorem dL_law_546 : decode cL_law 546 = .ok (.iadd, 1) := by decide +kernel
theorem dL_law_547 : decode cL_law 547 = .ok (.iaload, 1) := by decide +kernel
theorem dL_law_548 : decode cL_law 548 = .ok (.i2l, 1) := by decide +kernel
theorem dL_law_549 : decode cL_law 549 = .ok (.ldc2_w 73, 3) := by decide +kernel
theorem dL_law_552 : decode cL_law 552 = .ok (.land, 1) := by decide +kernel
theorem dL_law_553 : decode cL_law 553 = .ok (.lor, 1) := by decide +kernel
theorem dL_law_554 : decode cL_law 554 = .ok (.invokevirtual 75, 3) := by decide +kernel
theorem dL_law_557 : decode cL_law 557 = .ok (.aload_n 2, 1) := by decide +kernel
theorem dL_law_558 : decode cL_law 558 = .ok (.aload_n 0, 1) := by decide +kernel
theorem dL_law_559 : decode cL_law 559 = .ok (.iload_n 3, 1) := by decide +kernel
theorem dL_law_560 : decode cL_law 560 = .ok (.iconst 1, 1) := by decide +kernel
theorem dL_law_561 : decode cL_law 561 = .ok (.iadd, 1) := by decide +kernel
theorem dL_law_562 : decode cL_law 562 = .ok (.iaload, 1) := by decide +kernel
theorem dL_law_563 : decode cL_law 563 = .ok (.aload_n 0, 1) := by decide +kernel
theorem dL_law_564 : decode cL_law 564 = .ok (.iload_n 3, 1) := by decide +kernel
theorem dL_law_565 : decode cL_law 565 = .ok (.iconst 2, 1) := by decide +kernel
theorem dL_law_566 : decode cL_law 566 = .ok (.iadd, 1) := by decide +kernel
theorem dL_law_567 : decode cL_law 567 = .ok (.iaload, 1) := by decide +kernel
theorem dL_law_568 : decode cL_law 568 = .ok (.i2l, 1) := by decide +kernel
theorem dL_law_569 : decode cL_law 569 = .ok (.bipush 32, 2) := by decide +kernel
theorem dL_law_571 : decode cL_law 571 = .ok (.lshl, 1) := by decide +kernel
theorem dL_law_572 : decode cL_law 572 = .ok (.aload_n 0, 1) := by decide +kernel
theorem dL_law_573 : decode cL_law 573 = .ok (.iload_n 3, 1) := by decide +kernel
theorem dL_law_574 : decode cL_law 574 = .ok (.iconst 3, 1) := by decide +kernel
theorem dL_law_575 : decode cL_law 575 = .ok (.iadd, 1) := by decide +kernel
theorem dL_law_576 : decode cL_law 576 = .ok (.iaload, 1) := by decide +kernel
theorem dL_law_577 : decode cL_law 577 = .ok (.i2l, 1) := by decide +kernel
theorem dL_law_578 : decode cL_law 578 = .ok (.ldc2_w 73, 3) := by decide +kernel
theorem dL_law_581 : decode cL_law 581 = .ok (.land, 1) := by decide +kernel
theorem dL_law_582 : decode cL_law 582 = .ok (.lor, 1) := by decide +kernel
theorem dL_law_583 : decode cL_law 583 = .ok (.invokevirtual 79, 3) := by decide +kernel
theorem dL_law_586 : decode cL_law 586 = .ok (.if_icmp .eq 417, 3) := by decide +kernel
theorem dL_law_589 : decode cL_law 589 = .ok (.iconst 0, 1) := by decide +kernel
theorem dL_law_590 : decode cL_law 590 = .ok (.ireturn, 1) := by decide +kernel
theorem dL_law_591 : decode cL_law 591 = .ok (.aload_n 1, 1) := by decide +kernel
theorem dL_law_592 : decode cL_law 592 = .ok (.invokevirtual 80, 3) := by decide +kernel
theorem dL_law_595 : decode cL_law 595 = .ok (.aload_n 2, 1) := by decide +kernel
theorem dL_law_596 : decode cL_law 596 = .ok (.invokevirtual 83, 3) := by decide +kernel
theorem dL_law_599 : decode cL_law 599 = .ok (.if_icmp .eq 404, 3) := by decide +kernel
theorem dL_law_602 : decode cL_law 602 = .ok (.iconst 0, 1) := by decide +kernel
theorem dL_law_603 : decode cL_law 603 = .ok (.ireturn, 1) := by decide +kernel
theorem dL_law_604 : decode cL_law 604 = .ok (.aload_n 1, 1) := by decide +kernel
theorem dL_law_605 : decode cL_law 605 = .ok (.invokevirtual 84, 3) := by decide +kernel
theorem dL_law_608 : decode cL_law 608 = .ok (.aload_n 2, 1) := by decide +kernel
theorem dL_law_609 : decode cL_law 609 = .ok (.invokevirtual 87, 3) := by decide +kernel
theorem dL_law_612 : decode cL_law 612 = .ok (.if_icmp .eq 391, 3) := by decide +kernel
theorem dL_law_615 : decode cL_law 615 = .ok (.iconst 0, 1) := by decide +kernel
theorem dL_law_616 : decode cL_law 616 = .ok (.ireturn, 1) := by decide +kernel
theorem dL_law_617 : decode cL_law 617 = .ok (.aload_n 1, 1) := by decide +kernel
theorem dL_law_618 : decode cL_law 618 = .ok (.aload_n 0, 1) := by decide +kernel
theorem dL_law_619 : decode cL_law 619 = .ok (.iload_n 3, 1) := by decide +kernel
theorem dL_law_620 : decode cL_law 620 = .ok (.iconst 1, 1) := by decide +kernel
theorem dL_law_621 : decode cL_law 621 = .ok (.iadd, 1) := by decide +kernel
theorem dL_law_622 : decode cL_law 622 = .ok (.iaload, 1) := by decide +kernel
theorem dL_law_623 : decode cL_law 623 = .ok (.aload_n 0, 1) := by decide +kernel
theorem dL_law_624 : decode cL_law 624 = .ok (.iload_n 3, 1) := by decide +kernel
theorem dL_law_625 : decode cL_law 625 = .ok (.iconst 2, 1) := by decide +kernel
theorem dL_law_626 : decode cL_law 626 = .ok (.iadd, 1) := by decide +kernel
theorem dL_law_627 : decode cL_law 627 = .ok (.iaload, 1) := by decide +kernel
theorem dL_law_628 : decode cL_law 628 = .ok (.invokevirtual 88, 3) := by decide +kernel
theorem dL_law_631 : decode cL_law 631 = .ok (.aload_n 2, 1) := by decide +kernel
theorem dL_law_632 : decode cL_law 632 = .ok (.aload_n 0, 1) := by decide +kernel
theorem dL_law_633 : decode cL_law 633 = .ok (.iload_n 3, 1) := by decide +kernel
theorem dL_law_634 : decode cL_law 634 = .ok (.iconst 1, 1) := by decide +kernel
theorem dL_law_635 : decode cL_law 635 = .ok (.iadd, 1) := by decide +kernel
theorem dL_law_636 : decode cL_law 636 = .ok (.iaload, 1) := by decide +kernel
theorem dL_law_637 : decode cL_law 637 = .ok (.aload_n 0, 1) := by decide +kernel
theorem dL_law_638 : decode cL_law 638 = .ok (.iload_n 3, 1) := by decide +kernel
theorem dL_law_639 : decode cL_law 639 = .ok (.iconst 2, 1) := by decide +kernel
theorem dL_law_640 : decode cL_law 640 = .ok (.iadd, 1) := by decide +kernel
theorem dL_law_641 : decode cL_law 641 = .ok (.iaload, 1) := by decide +kernel
theorem dL_law_642 : decode cL_law 642 = .ok (.invokevirtual 91, 3) := by decide +kernel
theorem dL_law_645 : decode cL_law 645 = .ok (.if_icmp .eq 358, 3) := by decide +kernel
theorem dL_law_648 : decode cL_law 648 = .ok (.iconst 0, 1) := by decide +kernel
theorem dL_law_649 : decode cL_law 649 = .ok (.ireturn, 1) := by decide +kernel
theorem dL_law_650 : decode cL_law 650 = .ok (.aload_n 1, 1) := by decide +kernel
theorem dL_law_651 : decode cL_law 651 = .ok (.aload_n 0, 1) := by decide +kernel
theorem dL_law_652 : decode cL_law 652 = .ok (.iload_n 3, 1) := by decide +kernel
theorem dL_law_653 : decode cL_law 653 = .ok (.iconst 1, 1) := by decide +kernel
theorem dL_law_654 : decode cL_law 654 = .ok (.iadd, 1) := by decide +kernel
theorem dL_law_655 : decode cL_law 655 = .ok (.iaload, 1) := by decide +kernel
theorem dL_law_656 : decode cL_law 656 = .ok (.aload_n 0, 1) := by decide +kernel
theorem dL_law_657 : decode cL_law 657 = .ok (.iload_n 3, 1) := by decide +kernel
theorem dL_law_658 : decode cL_law 658 = .ok (.iconst 2, 1) := by decide +kernel
theorem dL_law_659 : decode cL_law 659 = .ok (.iadd, 1) := by decide +kernel
theorem dL_law_660 : decode cL_law 660 = .ok (.iaload, 1) := by decide +kernel
theorem dL_law_661 : decode cL_law 661 = .ok (.i2l, 1) := by decide +kernel
theorem dL_law_662 : decode cL_law 662 = .ok (.bipush 32, 2) := by decide +kernel
theorem dL_law_664 : decode cL_law 664 = .ok (.lshl, 1) := by decide +kernel
theorem dL_law_665 : decode cL_law 665 = .ok (.aload_n 0, 1) := by decide +kernel
theorem dL_law_666 : decode cL_law 666 = .ok (.iload_n 3, 1) := by decide +kernel
theorem dL_law_667 : decode cL_law 667 = .ok (.iconst 3, 1) := by decide +kernel
theorem dL_law_668 : decode cL_law 668 = .ok (.iadd, 1) := by decide +kernel
theorem dL_law_669 : decode cL_law 669 = .ok (.iaload, 1) := by decide +kernel
theorem dL_law_670 : decode cL_law 670 = .ok (.i2l, 1) := by decide +kernel
theorem dL_law_671 : decode cL_law 671 = .ok (.ldc2_w 73, 3) := by decide +kernel
theorem dL_law_674 : decode cL_law 674 = .ok (.land, 1) := by decide +kernel
theorem dL_law_675 : decode cL_law 675 = .ok (.lor, 1) := by decide +kernel
theorem dL_law_676 : decode cL_law 676 = .ok (.invokevirtual 92, 3) := by decide +kernel
theorem dL_law_679 : decode cL_law 679 = .ok (.aload_n 2, 1) := by decide +kernel
theorem dL_law_680 : decode cL_law 680 = .ok (.aload_n 0, 1) := by decide +kernel
theorem dL_law_681 : decode cL_law 681 = .ok (.iload_n 3, 1) := by decide +kernel
theorem dL_law_682 : decode cL_law 682 = .ok (.iconst 1, 1) := by decide +kernel
theorem dL_law_683 : decode cL_law 683 = .ok (.iadd, 1) := by decide +kernel
theorem dL_law_684 : decode cL_law 684 = .ok (.iaload, 1) := by decide +kernel
theorem dL_law_685 : decode cL_law 685 = .ok (.aload_n 0, 1) := by decide +kernel
theorem dL_law_686 : decode cL_law 686 = .ok (.iload_n 3, 1) := by decide +kernel
theorem dL_law_687 : decode cL_law 687 = .ok (.iconst 2, 1) := by decide +kernel
theorem dL_law_688 : decode cL_law 688 = .ok (.iadd, 1) := by decide +kernel
theorem dL_law_689 : decode cL_law 689 = .ok (.iaload, 1) := by decide +kernel
theorem dL_law_690 : decode cL_law 690 = .ok (.i2l, 1) := by decide +kernel
theorem dL_law_691 : decode cL_law 691 = .ok (.bipush 32, 2) := by decide +kernel
theorem dL_law_693 : decode cL_law 693 = .ok (.lshl, 1) := by decide +kernel
theorem dL_law_694 : decode cL_law 694 = .ok (.aload_n 0, 1) := by decide +kernel
theorem dL_law_695 : decode cL_law 695 = .ok (.iload_n 3, 1) := by decide +kernel
theorem dL_law_696 : decode cL_law 696 = .ok (.iconst 3, 1) := by decide +kernel
theorem dL_law_697 : decode cL_law 697 = .ok (.iadd, 1) := by decide +kernel
theorem dL_law_698 : decode cL_law 698 = .ok (.iaload, 1) := by decide +kernel
theorem dL_law_699 : decode cL_law 699 = .ok (.i2l, 1) := by decide +kernel
theorem dL_law_700 : decode cL_law 700 = .ok (.ldc2_w 73, 3) := by decide +kernel
theorem dL_law_703 : decode cL_law 703 = .ok (.land, 1) := by decide +kernel
theorem dL_law_704 : decode cL_law 704 = .ok (.lor, 1) := by decide +kernel
theorem dL_law_705 : decode cL_law 705 = .ok (.invokevirtual 95, 3) := by decide +kernel
theorem dL_law_708 : decode cL_law 708 = .ok (.if_icmp .eq 295, 3) := by decide +kernel
theorem dL_law_711 : decode cL_law 711 = .ok (.iconst 0, 1) := by decide +kernel
theorem dL_law_712 : decode cL_law 712 = .ok (.ireturn, 1) := by decide +kernel
theorem dL_law_713 : decode cL_law 713 = .ok (.aload_n 1, 1) := by decide +kernel
theorem dL_law_714 : decode cL_law 714 = .ok (.aload_n 0, 1) := by decide +kernel
theorem dL_law_715 : decode cL_law 715 = .ok (.iload_n 3, 1) := by decide +kernel
theorem dL_law_716 : decode cL_law 716 = .ok (.iconst 1, 1) := by decide +kernel
theorem dL_law_717 : decode cL_law 717 = .ok (.iadd, 1) := by decide +kernel
theorem dL_law_718 : decode cL_law 718 = .ok (.iaload, 1) := by decide +kernel
theorem dL_law_719 : decode cL_law 719 = .ok (.aload_n 0, 1) := by decide +kernel
theorem dL_law_720 : decode cL_law 720 = .ok (.iload_n 3, 1) := by decide +kernel
theorem dL_law_721 : decode cL_law 721 = .ok (.iconst 2, 1) := by decide +kernel
theorem dL_law_722 : decode cL_law 722 = .ok (.iadd, 1) := by decide +kernel
theorem dL_law_723 : decode cL_law 723 = .ok (.iaload, 1) := by decide +kernel
theorem dL_law_724 : decode cL_law 724 = .ok (.invokevirtual 96, 3) := by decide +kernel
theorem dL_law_727 : decode cL_law 727 = .ok (.aload_n 2, 1) := by decide +kernel
theorem dL_law_728 : decode cL_law 728 = .ok (.aload_n 0, 1) := by decide +kernel
theorem dL_law_729 : decode cL_law 729 = .ok (.iload_n 3, 1) := by decide +kernel
theorem dL_law_730 : decode cL_law 730 = .ok (.iconst 1, 1) := by decide +kernel
theorem dL_law_731 : decode cL_law 731 = .ok (.iadd, 1) := by decide +kernel
theorem dL_law_732 : decode cL_law 732 = .ok (.iaload, 1) := by decide +kernel
theorem dL_law_733 : decode cL_law 733 = .ok (.aload_n 0, 1) := by decide +kernel
theorem dL_law_734 : decode cL_law 734 = .ok (.iload_n 3, 1) := by decide +kernel
theorem dL_law_735 : decode cL_law 735 = .ok (.iconst 2, 1) := by decide +kernel
theorem dL_law_736 : decode cL_law 736 = .ok (.iadd, 1) := by decide +kernel
theorem dL_law_737 : decode cL_law 737 = .ok (.iaload, 1) := by decide +kernel
theorem dL_law_738 : decode cL_law 738 = .ok (.invokevirtual 99, 3) := by decide +kernel
theorem dL_law_741 : decode cL_law 741 = .ok (.if_icmp .eq 262, 3) := by decide +kernel
theorem dL_law_744 : decode cL_law 744 = .ok (.iconst 0, 1) := by decide +kernel
theorem dL_law_745 : decode cL_law 745 = .ok (.ireturn, 1) := by decide +kernel
theorem dL_law_746 : decode cL_law 746 = .ok (.aload_n 1, 1) := by decide +kernel
theorem dL_law_747 : decode cL_law 747 = .ok (.invokevirtual 100, 3) := by decide +kernel
theorem dL_law_750 : decode cL_law 750 = .ok (.aload_n 2, 1) := by decide +kernel
theorem dL_law_751 : decode cL_law 751 = .ok (.invokevirtual 103, 3) := by decide +kernel
theorem dL_law_754 : decode cL_law 754 = .ok (.if_icmp .eq 249, 3) := by decide +kernel
theorem dL_law_757 : decode cL_law 757 = .ok (.iconst 0, 1) := by decide +kernel
theorem dL_law_758 : decode cL_law 758 = .ok (.ireturn, 1) := by decide +kernel
theorem dL_law_759 : decode cL_law 759 = .ok (.aload_n 1, 1) := by decide +kernel
theorem dL_law_760 : decode cL_law 760 = .ok (.invokevirtual 104, 3) := by decide +kernel
theorem dL_law_763 : decode cL_law 763 = .ok (.aload_n 2, 1) := by decide +kernel
theorem dL_law_764 : decode cL_law 764 = .ok (.invokevirtual 107, 3) := by decide +kernel
theorem dL_law_767 : decode cL_law 767 = .ok (.if_icmp .eq 236, 3) := by decide +kernel
theorem dL_law_770 : decode cL_law 770 = .ok (.iconst 0, 1) := by decide +kernel
theorem dL_law_771 : decode cL_law 771 = .ok (.ireturn, 1) := by decide +kernel
theorem dL_law_772 : decode cL_law 772 = .ok (.aload_n 1, 1) := by decide +kernel
theorem dL_law_773 : decode cL_law 773 = .ok (.aload_n 0, 1) := by decide +kernel
theorem dL_law_774 : decode cL_law 774 = .ok (.iload_n 3, 1) := by decide +kernel
theorem dL_law_775 : decode cL_law 775 = .ok (.iconst 1, 1) := by decide +kernel
theorem dL_law_776 : decode cL_law 776 = .ok (.iadd, 1) := by decide +kernel
theorem dL_law_777 : decode cL_law 777 = .ok (.iaload, 1) := by decide +kernel
theorem dL_law_778 : decode cL_law 778 = .ok (.aload_n 0, 1) := by decide +kernel
theorem dL_law_779 : decode cL_law 779 = .ok (.iload_n 3, 1) := by decide +kernel
theorem dL_law_780 : decode cL_law 780 = .ok (.iconst 2, 1) := by decide +kernel
theorem dL_law_781 : decode cL_law 781 = .ok (.iadd, 1) := by decide +kernel
theorem dL_law_782 : decode cL_law 782 = .ok (.iaload, 1) := by decide +kernel
theorem dL_law_783 : decode cL_law 783 = .ok (.ifCond .eq 7, 3) := by decide +kernel
theorem dL_law_786 : decode cL_law 786 = .ok (.iconst 1, 1) := by decide +kernel
theorem dL_law_787 : decode cL_law 787 = .ok (.goto 4, 3) := by decide +kernel
theorem dL_law_790 : decode cL_law 790 = .ok (.iconst 0, 1) := by decide +kernel
theorem dL_law_791 : decode cL_law 791 = .ok (.invokevirtual 108, 3) := by decide +kernel
theorem dL_law_794 : decode cL_law 794 = .ok (.aload_n 2, 1) := by decide +kernel
theorem dL_law_795 : decode cL_law 795 = .ok (.aload_n 0, 1) := by decide +kernel
theorem dL_law_796 : decode cL_law 796 = .ok (.iload_n 3, 1) := by decide +kernel
theorem dL_law_797 : decode cL_law 797 = .ok (.iconst 1, 1) := by decide +kernel
theorem dL_law_798 : decode cL_law 798 = .ok (.iadd, 1) := by decide +kernel
theorem dL_law_799 : decode cL_law 799 = .ok (.iaload, 1) := by decide +kernel
theorem dL_law_800 : decode cL_law 800 = .ok (.aload_n 0, 1) := by decide +kernel
theorem dL_law_801 : decode cL_law 801 = .ok (.iload_n 3, 1) := by decide +kernel
theorem dL_law_802 : decode cL_law 802 = .ok (.iconst 2, 1) := by decide +kernel
theorem dL_law_803 : decode cL_law 803 = .ok (.iadd, 1) := by decide +kernel
theorem dL_law_804 : decode cL_law 804 = .ok (.iaload, 1) := by decide +kernel
theorem dL_law_805 : decode cL_law 805 = .ok (.ifCond .eq 7, 3) := by decide +kernel
theorem dL_law_808 : decode cL_law 808 = .ok (.iconst 1, 1) := by decide +kernel
theorem dL_law_809 : decode cL_law 809 = .ok (.goto 4, 3) := by decide +kernel
theorem dL_law_812 : decode cL_law 812 = .ok (.iconst 0, 1) := by decide +kernel
theorem dL_law_813 : decode cL_law 813 = .ok (.invokevirtual 112, 3) := by decide +kernel
theorem dL_law_816 : decode cL_law 816 = .ok (.if_icmp .eq 187, 3) := by decide +kernel
theorem dL_law_819 : decode cL_law 819 = .ok (.iconst 0, 1) := by decide +kernel
theorem dL_law_820 : decode cL_law 820 = .ok (.ireturn, 1) := by decide +kernel
theorem dL_law_821 : decode cL_law 821 = .ok (.aload_n 1, 1) := by decide +kernel
theorem dL_law_822 : decode cL_law 822 = .ok (.aload_n 0, 1) := by decide +kernel
theorem dL_law_823 : decode cL_law 823 = .ok (.iload_n 3, 1) := by decide +kernel
theorem dL_law_824 : decode cL_law 824 = .ok (.iconst 1, 1) := by decide +kernel
theorem dL_law_825 : decode cL_law 825 = .ok (.iadd, 1) := by decide +kernel
theorem dL_law_826 : decode cL_law 826 = .ok (.iaload, 1) := by decide +kernel
theorem dL_law_827 : decode cL_law 827 = .ok (.aload_n 0, 1) := by decide +kernel
theorem dL_law_828 : decode cL_law 828 = .ok (.iload_n 3, 1) := by decide +kernel
theorem dL_law_829 : decode cL_law 829 = .ok (.iconst 2, 1) := by decide +kernel
theorem dL_law_830 : decode cL_law 830 = .ok (.iadd, 1) := by decide +kernel
theorem dL_law_831 : decode cL_law 831 = .ok (.iaload, 1) := by decide +kernel
theorem dL_law_832 : decode cL_law 832 = .ok (.aload_n 0, 1) := by decide +kernel
theorem dL_law_833 : decode cL_law 833 = .ok (.iload_n 3, 1) := by decide +kernel
theorem dL_law_834 : decode cL_law 834 = .ok (.iconst 3, 1) := by decide +kernel
theorem dL_law_835 : decode cL_law 835 = .ok (.iadd, 1) := by decide +kernel
theorem dL_law_836 : decode cL_law 836 = .ok (.iaload, 1) := by decide +kernel
theorem dL_law_837 : decode cL_law 837 = .ok (.ifCond .eq 7, 3) := by decide +kernel
theorem dL_law_840 : decode cL_law 840 = .ok (.iconst 1, 1) := by decide +kernel
theorem dL_law_841 : decode cL_law 841 = .ok (.goto 4, 3) := by decide +kernel
theorem dL_law_844 : decode cL_law 844 = .ok (.iconst 0, 1) := by decide +kernel
theorem dL_law_845 : decode cL_law 845 = .ok (.invokevirtual 113, 3) := by decide +kernel
theorem dL_law_848 : decode cL_law 848 = .ok (.aload_n 2, 1) := by decide +kernel
theorem dL_law_849 : decode cL_law 849 = .ok (.aload_n 0, 1) := by decide +kernel
theorem dL_law_850 : decode cL_law 850 = .ok (.iload_n 3, 1) := by decide +kernel
theorem dL_law_851 : decode cL_law 851 = .ok (.iconst 1, 1) := by decide +kernel
theorem dL_law_852 : decode cL_law 852 = .ok (.iadd, 1) := by decide +kernel
theorem dL_law_853 : decode cL_law 853 = .ok (.iaload, 1) := by decide +kernel
theorem dL_law_854 : decode cL_law 854 = .ok (.aload_n 0, 1) := by decide +kernel
theorem dL_law_855 : decode cL_law 855 = .ok (.iload_n 3, 1) := by decide +kernel
theorem dL_law_856 : decode cL_law 856 = .ok (.iconst 2, 1) := by decide +kernel
theorem dL_law_857 : decode cL_law 857 = .ok (.iadd, 1) := by decide +kernel
theorem dL_law_858 : decode cL_law 858 = .ok (.iaload, 1) := by decide +kernel
theorem dL_law_859 : decode cL_law 859 = .ok (.aload_n 0, 1) := by decide +kernel
theorem dL_law_860 : decode cL_law 860 = .ok (.iload_n 3, 1) := by decide +kernel
theorem dL_law_861 : decode cL_law 861 = .ok (.iconst 3, 1) := by decide +kernel
theorem dL_law_862 : decode cL_law 862 = .ok (.iadd, 1) := by decide +kernel
theorem dL_law_863 : decode cL_law 863 = .ok (.iaload, 1) := by decide +kernel
theorem dL_law_864 : decode cL_law 864 = .ok (.ifCond .eq 7, 3) := by decide +kernel
theorem dL_law_867 : decode cL_law 867 = .ok (.iconst 1, 1) := by decide +kernel
theorem dL_law_868 : decode cL_law 868 = .ok (.goto 4, 3) := by decide +kernel
theorem dL_law_871 : decode cL_law 871 = .ok (.iconst 0, 1) := by decide +kernel
theorem dL_law_872 : decode cL_law 872 = .ok (.invokevirtual 116, 3) := by decide +kernel
theorem dL_law_875 : decode cL_law 875 = .ok (.if_icmp .eq 128, 3) := by decide +kernel
theorem dL_law_878 : decode cL_law 878 = .ok (.iconst 0, 1) := by decide +kernel
theorem dL_law_879 : decode cL_law 879 = .ok (.ireturn, 1) := by decide +kernel
theorem dL_law_880 : decode cL_law 880 = .ok (.aload_n 1, 1) := by decide +kernel
theorem dL_law_881 : decode cL_law 881 = .ok (.aload_n 0, 1) := by decide +kernel
theorem dL_law_882 : decode cL_law 882 = .ok (.iload_n 3, 1) := by decide +kernel
theorem dL_law_883 : decode cL_law 883 = .ok (.iconst 1, 1) := by decide +kernel
theorem dL_law_884 : decode cL_law 884 = .ok (.iadd, 1) := by decide +kernel
theorem dL_law_885 : decode cL_law 885 = .ok (.iaload, 1) := by decide +kernel
theorem dL_law_886 : decode cL_law 886 = .ok (.i2l, 1) := by decide +kernel
theorem dL_law_887 : decode cL_law 887 = .ok (.bipush 32, 2) := by decide +kernel
theorem dL_law_889 : decode cL_law 889 = .ok (.lshl, 1) := by decide +kernel
theorem dL_law_890 : decode cL_law 890 = .ok (.aload_n 0, 1) := by decide +kernel
theorem dL_law_891 : decode cL_law 891 = .ok (.iload_n 3, 1) := by decide +kernel
theorem dL_law_892 : decode cL_law 892 = .ok (.iconst 2, 1) := by decide +kernel
theorem dL_law_893 : decode cL_law 893 = .ok (.iadd, 1) := by decide +kernel
theorem dL_law_894 : decode cL_law 894 = .ok (.iaload, 1) := by decide +kernel
theorem dL_law_895 : decode cL_law 895 = .ok (.i2l, 1) := by decide +kernel
theorem dL_law_896 : decode cL_law 896 = .ok (.ldc2_w 73, 3) := by decide +kernel
theorem dL_law_899 : decode cL_law 899 = .ok (.land, 1) := by decide +kernel
theorem dL_law_900 : decode cL_law 900 = .ok (.lor, 1) := by decide +kernel
theorem dL_law_901 : decode cL_law 901 = .ok (.invokevirtual 117, 3) := by decide +kernel
theorem dL_law_904 : decode cL_law 904 = .ok (.aload_n 2, 1) := by decide +kernel
theorem dL_law_905 : decode cL_law 905 = .ok (.aload_n 0, 1) := by decide +kernel
theorem dL_law_906 : decode cL_law 906 = .ok (.iload_n 3, 1) := by decide +kernel
theorem dL_law_907 : decode cL_law 907 = .ok (.iconst 1, 1) := by decide +kernel
theorem dL_law_908 : decode cL_law 908 = .ok (.iadd, 1) := by decide +kernel
theorem dL_law_909 : decode cL_law 909 = .ok (.iaload, 1) := by decide +kernel
theorem dL_law_910 : decode cL_law 910 = .ok (.i2l, 1) := by decide +kernel
theorem dL_law_911 : decode cL_law 911 = .ok (.bipush 32, 2) := by decide +kernel
theorem dL_law_913 : decode cL_law 913 = .ok (.lshl, 1) := by decide +kernel
theorem dL_law_914 : decode cL_law 914 = .ok (.aload_n 0, 1) := by decide +kernel
theorem dL_law_915 : decode cL_law 915 = .ok (.iload_n 3, 1) := by decide +kernel
theorem dL_law_916 : decode cL_law 916 = .ok (.iconst 2, 1) := by decide +kernel
theorem dL_law_917 : decode cL_law 917 = .ok (.iadd, 1) := by decide +kernel
theorem dL_law_918 : decode cL_law 918 = .ok (.iaload, 1) := by decide +kernel
theorem dL_law_919 : decode cL_law 919 = .ok (.i2l, 1) := by decide +kernel
theorem dL_law_920 : decode cL_law 920 = .ok (.ldc2_w 73, 3) := by decide +kernel
theorem dL_law_923 : decode cL_law 923 = .ok (.land, 1) := by decide +kernel
theorem dL_law_924 : decode cL_law 924 = .ok (.lor, 1) := by decide +kernel
theorem dL_law_925 : decode cL_law 925 = .ok (.invokevirtual 121, 3) := by decide +kernel
theorem dL_law_928 : decode cL_law 928 = .ok (.lcmp, 1) := by decide +kernel
theorem dL_law_929 : decode cL_law 929 = .ok (.ifCond .eq 74, 3) := by decide +kernel
theorem dL_law_932 : decode cL_law 932 = .ok (.iconst 0, 1) := by decide +kernel
theorem dL_law_933 : decode cL_law 933 = .ok (.ireturn, 1) := by decide +kernel
theorem dL_law_934 : decode cL_law 934 = .ok (.aload_n 1, 1) := by decide +kernel
theorem dL_law_935 : decode cL_law 935 = .ok (.aload_n 0, 1) := by decide +kernel
theorem dL_law_936 : decode cL_law 936 = .ok (.iload_n 3, 1) := by decide +kernel
theorem dL_law_937 : decode cL_law 937 = .ok (.iconst 1, 1) := by decide +kernel
theorem dL_law_938 : decode cL_law 938 = .ok (.iadd, 1) := by decide +kernel
theorem dL_law_939 : decode cL_law 939 = .ok (.iaload, 1) := by decide +kernel
theorem dL_law_940 : decode cL_law 940 = .ok (.invokevirtual 122, 3) := by decide +kernel
theorem dL_law_943 : decode cL_law 943 = .ok (.aload_n 2, 1) := by decide +kernel
theorem dL_law_944 : decode cL_law 944 = .ok (.aload_n 0, 1) := by decide +kernel
theorem dL_law_945 : decode cL_law 945 = .ok (.iload_n 3, 1) := by decide +kernel
theorem dL_law_946 : decode cL_law 946 = .ok (.iconst 1, 1) := by decide +kernel
theorem dL_law_947 : decode cL_law 947 = .ok (.iadd, 1) := by decide +kernel
theorem dL_law_948 : decode cL_law 948 = .ok (.iaload, 1) := by decide +kernel
theorem dL_law_949 : decode cL_law 949 = .ok (.invokevirtual 125, 3) := by decide +kernel
theorem dL_law_952 : decode cL_law 952 = .ok (.if_icmp .eq 51, 3) := by decide +kernel
theorem dL_law_955 : decode cL_law 955 = .ok (.iconst 0, 1) := by decide +kernel
theorem dL_law_956 : decode cL_law 956 = .ok (.ireturn, 1) := by decide +kernel
theorem dL_law_957 : decode cL_law 957 = .ok (.aload_n 1, 1) := by decide +kernel
theorem dL_law_958 : decode cL_law 958 = .ok (.aload_n 0, 1) := by decide +kernel
theorem dL_law_959 : decode cL_law 959 = .ok (.iload_n 3, 1) := by decide +kernel
theorem dL_law_960 : decode cL_law 960 = .ok (.iconst 1, 1) := by decide +kernel
theorem dL_law_961 : decode cL_law 961 = .ok (.iadd, 1) := by decide +kernel
theorem dL_law_962 : decode cL_law 962 = .ok (.iaload, 1) := by decide +kernel
theorem dL_law_963 : decode cL_law 963 = .ok (.invokevirtual 126, 3) := by decide +kernel
theorem dL_law_966 : decode cL_law 966 = .ok (.aload_n 2, 1) := by decide +kernel
theorem dL_law_967 : decode cL_law 967 = .ok (.aload_n 0, 1) := by decide +kernel
theorem dL_law_968 : decode cL_law 968 = .ok (.iload_n 3, 1) := by decide +kernel
theorem dL_law_969 : decode cL_law 969 = .ok (.iconst 1, 1) := by decide +kernel
theorem dL_law_970 : decode cL_law 970 = .ok (.iadd, 1) := by decide +kernel
theorem dL_law_971 : decode cL_law 971 = .ok (.iaload, 1) := by decide +kernel
theorem dL_law_972 : decode cL_law 972 = .ok (.invokevirtual 129, 3) := by decide +kernel
theorem dL_law_975 : decode cL_law 975 = .ok (.if_icmp .eq 28, 3) := by decide +kernel
theorem dL_law_978 : decode cL_law 978 = .ok (.iconst 0, 1) := by decide +kernel
theorem dL_law_979 : decode cL_law 979 = .ok (.ireturn, 1) := by decide +kernel
theorem dL_law_980 : decode cL_law 980 = .ok (.aload_n 1, 1) := by decide +kernel
theorem dL_law_981 : decode cL_law 981 = .ok (.aload_n 0, 1) := by decide +kernel
theorem dL_law_982 : decode cL_law 982 = .ok (.iload_n 3, 1) := by decide +kernel
theorem dL_law_983 : decode cL_law 983 = .ok (.iconst 1, 1) := by decide +kernel
theorem dL_law_984 : decode cL_law 984 = .ok (.iadd, 1) := by decide +kernel
theorem dL_law_985 : decode cL_law 985 = .ok (.iaload, 1) := by decide +kernel
theorem dL_law_986 : decode cL_law 986 = .ok (.invokevirtual 130, 3) := by decide +kernel
theorem dL_law_989 : decode cL_law 989 = .ok (.aload_n 2, 1) := by decide +kernel
theorem dL_law_990 : decode cL_law 990 = .ok (.aload_n 0, 1) := by decide +kernel
theorem dL_law_991 : decode cL_law 991 = .ok (.iload_n 3, 1) := by decide +kernel
theorem dL_law_992 : decode cL_law 992 = .ok (.iconst 1, 1) := by decide +kernel
theorem dL_law_993 : decode cL_law 993 = .ok (.iadd, 1) := by decide +kernel
theorem dL_law_994 : decode cL_law 994 = .ok (.iaload, 1) := by decide +kernel
theorem dL_law_995 : decode cL_law 995 = .ok (.invokevirtual 133, 3) := by decide +kernel
theorem dL_law_998 : decode cL_law 998 = .ok (.if_icmp .eq 5, 3) := by decide +kernel
theorem dL_law_1001 : decode cL_law 1001 = .ok (.iconst 0, 1) := by decide +kernel
theorem dL_law_1002 : decode cL_law 1002 = .ok (.ireturn, 1) := by decide +kernel
theorem dL_law_1003 : decode cL_law 1003 = .ok (.iinc 3 4, 3) := by decide +kernel
theorem dL_law_1006 : decode cL_law 1006 = .ok (.goto (-988), 3) := by decide +kernel
theorem dL_law_1009 : decode cL_law 1009 = .ok (.iconst 1, 1) := by decide +kernel
theorem dL_law_1010 : decode cL_law 1010 = .ok (.ireturn, 1) := by decide +kernel
