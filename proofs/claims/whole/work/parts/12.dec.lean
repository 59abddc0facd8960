theorem dX9_inStock_0 : decode cX9_inStock 0 = .ok (.iconst 0, 1) := by decide +kernel
theorem dX9_inStock_1 : decode cX9_inStock 1 = .ok (.istore_n 1, 1) := by decide +kernel
theorem dX9_inStock_2 : decode cX9_inStock 2 = .ok (.iconst 1, 1) := by decide +kernel
theorem dX9_inStock_3 : decode cX9_inStock 3 = .ok (.istore_n 2, 1) := by decide +kernel
theorem dX9_inStock_4 : decode cX9_inStock 4 = .ok (.iload_n 2, 1) := by decide +kernel
theorem dX9_inStock_5 : decode cX9_inStock 5 = .ok (.bipush 24, 2) := by decide +kernel
theorem dX9_inStock_7 : decode cX9_inStock 7 = .ok (.if_icmp .gt 26, 3) := by decide +kernel
theorem dX9_inStock_10 : decode cX9_inStock 10 = .ok (.aload_n 0, 1) := by decide +kernel
theorem dX9_inStock_11 : decode cX9_inStock 11 = .ok (.getfield 15, 3) := by decide +kernel
theorem dX9_inStock_14 : decode cX9_inStock 14 = .ok (.iload_n 2, 1) := by decide +kernel
theorem dX9_inStock_15 : decode cX9_inStock 15 = .ok (.iaload, 1) := by decide +kernel
theorem dX9_inStock_16 : decode cX9_inStock 16 = .ok (.ifCond .le 11, 3) := by decide +kernel
theorem dX9_inStock_19 : decode cX9_inStock 19 = .ok (.iload_n 1, 1) := by decide +kernel
theorem dX9_inStock_20 : decode cX9_inStock 20 = .ok (.iconst 1, 1) := by decide +kernel
theorem dX9_inStock_21 : decode cX9_inStock 21 = .ok (.iload_n 2, 1) := by decide +kernel
theorem dX9_inStock_22 : decode cX9_inStock 22 = .ok (.iconst 1, 1) := by decide +kernel
theorem dX9_inStock_23 : decode cX9_inStock 23 = .ok (.isub, 1) := by decide +kernel
theorem dX9_inStock_24 : decode cX9_inStock 24 = .ok (.ishl, 1) := by decide +kernel
theorem dX9_inStock_25 : decode cX9_inStock 25 = .ok (.ior, 1) := by decide +kernel
theorem dX9_inStock_26 : decode cX9_inStock 26 = .ok (.istore_n 1, 1) := by decide +kernel
theorem dX9_inStock_27 : decode cX9_inStock 27 = .ok (.iinc 2 1, 3) := by decide +kernel
theorem dX9_inStock_30 : decode cX9_inStock 30 = .ok (.goto (-26), 3) := by decide +kernel
theorem dX9_inStock_33 : decode cX9_inStock 33 = .ok (.iload_n 1, 1) := by decide +kernel
theorem dX9_inStock_34 : decode cX9_inStock 34 = .ok (.ireturn, 1) := by decide +kernel
theorem dX7_wayOf_0 : decode cX7_wayOf 0 = .ok (.aload_n 0, 1) := by decide +kernel
theorem dX7_wayOf_1 : decode cX7_wayOf 1 = .ok (.getfield 57, 3) := by decide +kernel
theorem dX7_wayOf_4 : decode cX7_wayOf 4 = .ok (.iload_n 1, 1) := by decide +kernel
theorem dX7_wayOf_5 : decode cX7_wayOf 5 = .ok (.bipush 32, 2) := by decide +kernel
theorem dX7_wayOf_7 : decode cX7_wayOf 7 = .ok (.imul, 1) := by decide +kernel
theorem dX7_wayOf_8 : decode cX7_wayOf 8 = .ok (.iload_n 2, 1) := by decide +kernel
theorem dX7_wayOf_9 : decode cX7_wayOf 9 = .ok (.iadd, 1) := by decide +kernel
theorem dX7_wayOf_10 : decode cX7_wayOf 10 = .ok (.iaload, 1) := by decide +kernel
theorem dX7_wayOf_11 : decode cX7_wayOf 11 = .ok (.ireturn, 1) := by decide +kernel
theorem dX7_sizesOfWaysWithin_0 : decode cX7_sizesOfWaysWithin 0 = .ok (.iconst 0, 1) := by decide +kernel
theorem dX7_sizesOfWaysWithin_1 : decode cX7_sizesOfWaysWithin 1 = .ok (.istore_n 3, 1) := by decide +kernel
theorem dX7_sizesOfWaysWithin_2 : decode cX7_sizesOfWaysWithin 2 = .ok (.iconst 0, 1) := by decide +kernel
theorem dX7_sizesOfWaysWithin_3 : decode cX7_sizesOfWaysWithin 3 = .ok (.istore 4, 2) := by decide +kernel
theorem dX7_sizesOfWaysWithin_5 : decode cX7_sizesOfWaysWithin 5 = .ok (.iload 4, 2) := by decide +kernel
theorem dX7_sizesOfWaysWithin_7 : decode cX7_sizesOfWaysWithin 7 = .ok (.aload_n 0, 1) := by decide +kernel
theorem dX7_sizesOfWaysWithin_8 : decode cX7_sizesOfWaysWithin 8 = .ok (.getfield 60, 3) := by decide +kernel
theorem dX7_sizesOfWaysWithin_11 : decode cX7_sizesOfWaysWithin 11 = .ok (.iload_n 1, 1) := by decide +kernel
theorem dX7_sizesOfWaysWithin_12 : decode cX7_sizesOfWaysWithin 12 = .ok (.iaload, 1) := by decide +kernel
theorem dX7_sizesOfWaysWithin_13 : decode cX7_sizesOfWaysWithin 13 = .ok (.if_icmp .ge 32, 3) := by decide +kernel
theorem dX7_sizesOfWaysWithin_16 : decode cX7_sizesOfWaysWithin 16 = .ok (.aload_n 0, 1) := by decide +kernel
theorem dX7_sizesOfWaysWithin_17 : decode cX7_sizesOfWaysWithin 17 = .ok (.iload_n 1, 1) := by decide +kernel
theorem dX7_sizesOfWaysWithin_18 : decode cX7_sizesOfWaysWithin 18 = .ok (.iload 4, 2) := by decide +kernel
theorem dX7_sizesOfWaysWithin_20 : decode cX7_sizesOfWaysWithin 20 = .ok (.invokevirtual 83, 3) := by decide +kernel
theorem dX7_sizesOfWaysWithin_23 : decode cX7_sizesOfWaysWithin 23 = .ok (.istore 5, 2) := by decide +kernel
theorem dX7_sizesOfWaysWithin_25 : decode cX7_sizesOfWaysWithin 25 = .ok (.iload 5, 2) := by decide +kernel
theorem dX7_sizesOfWaysWithin_27 : decode cX7_sizesOfWaysWithin 27 = .ok (.iload_n 2, 1) := by decide +kernel
theorem dX7_sizesOfWaysWithin_28 : decode cX7_sizesOfWaysWithin 28 = .ok (.iconst (-1), 1) := by decide +kernel
theorem dX7_sizesOfWaysWithin_29 : decode cX7_sizesOfWaysWithin 29 = .ok (.ixor, 1) := by decide +kernel
theorem dX7_sizesOfWaysWithin_30 : decode cX7_sizesOfWaysWithin 30 = .ok (.iand, 1) := by decide +kernel
theorem dX7_sizesOfWaysWithin_31 : decode cX7_sizesOfWaysWithin 31 = .ok (.ifCond .ne 8, 3) := by decide +kernel
theorem dX7_sizesOfWaysWithin_34 : decode cX7_sizesOfWaysWithin 34 = .ok (.iload_n 3, 1) := by decide +kernel
theorem dX7_sizesOfWaysWithin_35 : decode cX7_sizesOfWaysWithin 35 = .ok (.iload 5, 2) := by decide +kernel
theorem dX7_sizesOfWaysWithin_37 : decode cX7_sizesOfWaysWithin 37 = .ok (.ior, 1) := by decide +kernel
theorem dX7_sizesOfWaysWithin_38 : decode cX7_sizesOfWaysWithin 38 = .ok (.istore_n 3, 1) := by decide +kernel
theorem dX7_sizesOfWaysWithin_39 : decode cX7_sizesOfWaysWithin 39 = .ok (.iinc 4 1, 3) := by decide +kernel
theorem dX7_sizesOfWaysWithin_42 : decode cX7_sizesOfWaysWithin 42 = .ok (.goto (-37), 3) := by decide +kernel
theorem dX7_sizesOfWaysWithin_45 : decode cX7_sizesOfWaysWithin 45 = .ok (.iload_n 3, 1) := by decide +kernel
theorem dX7_sizesOfWaysWithin_46 : decode cX7_sizesOfWaysWithin 46 = .ok (.ireturn, 1) := by decide +kernel
theorem dX2_factAt_0 : decode cX2_factAt 0 = .ok (.iload_n 1, 1) := by decide +kernel
theorem dX2_factAt_1 : decode cX2_factAt 1 = .ok (.ifCond .lt 15, 3) := by decide +kernel
theorem dX2_factAt_4 : decode cX2_factAt 4 = .ok (.iload_n 1, 1) := by decide +kernel
theorem dX2_factAt_5 : decode cX2_factAt 5 = .ok (.aload_n 0, 1) := by decide +kernel
theorem dX2_factAt_6 : decode cX2_factAt 6 = .ok (.arraylength, 1) := by decide +kernel
theorem dX2_factAt_7 : decode cX2_factAt 7 = .ok (.if_icmp .ge 9, 3) := by decide +kernel
theorem dX2_factAt_10 : decode cX2_factAt 10 = .ok (.aload_n 0, 1) := by decide +kernel
theorem dX2_factAt_11 : decode cX2_factAt 11 = .ok (.iload_n 1, 1) := by decide +kernel
theorem dX2_factAt_12 : decode cX2_factAt 12 = .ok (.iaload, 1) := by decide +kernel
theorem dX2_factAt_13 : decode cX2_factAt 13 = .ok (.goto 4, 3) := by decide +kernel
theorem dX2_factAt_16 : decode cX2_factAt 16 = .ok (.iconst 0, 1) := by decide +kernel
theorem dX2_factAt_17 : decode cX2_factAt 17 = .ok (.ireturn, 1) := by decide +kernel
theorem dX2_turn_0 : decode cX2_turn 0 = .ok (.iload_n 0, 1) := by decide +kernel
theorem dX2_turn_1 : decode cX2_turn 1 = .ok (.iconst 2, 1) := by decide +kernel
theorem dX2_turn_2 : decode cX2_turn 2 = .ok (.if_icmp .ne 7, 3) := by decide +kernel
theorem dX2_turn_5 : decode cX2_turn 5 = .ok (.iconst 1, 1) := by decide +kernel
theorem dX2_turn_6 : decode cX2_turn 6 = .ok (.iload_n 1, 1) := by decide +kernel
theorem dX2_turn_7 : decode cX2_turn 7 = .ok (.isub, 1) := by decide +kernel
theorem dX2_turn_8 : decode cX2_turn 8 = .ok (.ireturn, 1) := by decide +kernel
theorem dX2_turn_9 : decode cX2_turn 9 = .ok (.iload_n 1, 1) := by decide +kernel
theorem dX2_turn_10 : decode cX2_turn 10 = .ok (.iconst 1, 1) := by decide +kernel
theorem dX2_turn_11 : decode cX2_turn 11 = .ok (.if_icmp .lt 9, 3) := by decide +kernel
theorem dX2_turn_14 : decode cX2_turn 14 = .ok (.iload_n 1, 1) := by decide +kernel
theorem dX2_turn_15 : decode cX2_turn 15 = .ok (.bipush 24, 2) := by decide +kernel
theorem dX2_turn_17 : decode cX2_turn 17 = .ok (.if_icmp .le 5, 3) := by decide +kernel
theorem dX2_turn_20 : decode cX2_turn 20 = .ok (.iconst 0, 1) := by decide +kernel
theorem dX2_turn_21 : decode cX2_turn 21 = .ok (.ireturn, 1) := by decide +kernel
theorem dX2_turn_22 : decode cX2_turn 22 = .ok (.iload_n 0, 1) := by decide +kernel
theorem dX2_turn_23 : decode cX2_turn 23 = .ok (.iconst 3, 1) := by decide +kernel
theorem dX2_turn_24 : decode cX2_turn 24 = .ok (.if_icmp .ne 14, 3) := by decide +kernel
theorem dX2_turn_27 : decode cX2_turn 27 = .ok (.aload_n 2, 1) := by decide +kernel
theorem dX2_turn_28 : decode cX2_turn 28 = .ok (.bipush 11, 2) := by decide +kernel
theorem dX2_turn_30 : decode cX2_turn 30 = .ok (.iload_n 1, 1) := by decide +kernel
theorem dX2_turn_31 : decode cX2_turn 31 = .ok (.iadd, 1) := by decide +kernel
theorem dX2_turn_32 : decode cX2_turn 32 = .ok (.invokestatic 28, 3) := by decide +kernel
theorem dX2_turn_35 : decode cX2_turn 35 = .ok (.goto 15, 3) := by decide +kernel
theorem dX2_turn_38 : decode cX2_turn 38 = .ok (.aload_n 2, 1) := by decide +kernel
theorem dX2_turn_39 : decode cX2_turn 39 = .ok (.bipush 10, 2) := by decide +kernel
theorem dX2_turn_41 : decode cX2_turn 41 = .ok (.invokestatic 28, 3) := by decide +kernel
theorem dX2_turn_44 : decode cX2_turn 44 = .ok (.iload_n 1, 1) := by decide +kernel
theorem dX2_turn_45 : decode cX2_turn 45 = .ok (.iconst 1, 1) := by decide +kernel
theorem dX2_turn_46 : decode cX2_turn 46 = .ok (.isub, 1) := by decide +kernel
theorem dX2_turn_47 : decode cX2_turn 47 = .ok (.ishr, 1) := by decide +kernel
theorem dX2_turn_48 : decode cX2_turn 48 = .ok (.iconst 1, 1) := by decide +kernel
theorem dX2_turn_49 : decode cX2_turn 49 = .ok (.iand, 1) := by decide +kernel
theorem dX2_turn_50 : decode cX2_turn 50 = .ok (.ireturn, 1) := by decide +kernel
theorem dX2_hold_0 : decode cX2_hold 0 = .ok (.lload_n 0, 1) := by decide +kernel
theorem dX2_hold_1 : decode cX2_hold 1 = .ok (.ldc2_w 56, 3) := by decide +kernel
theorem dX2_hold_4 : decode cX2_hold 4 = .ok (.lcmp, 1) := by decide +kernel
theorem dX2_hold_5 : decode cX2_hold 5 = .ok (.ifCond .le 6, 3) := by decide +kernel
theorem dX2_hold_8 : decode cX2_hold 8 = .ok (.ldc 58, 2) := by decide +kernel
theorem dX2_hold_10 : decode cX2_hold 10 = .ok (.ireturn, 1) := by decide +kernel
theorem dX2_hold_11 : decode cX2_hold 11 = .ok (.lload_n 0, 1) := by decide +kernel
theorem dX2_hold_12 : decode cX2_hold 12 = .ok (.ldc2_w 59, 3) := by decide +kernel
theorem dX2_hold_15 : decode cX2_hold 15 = .ok (.lcmp, 1) := by decide +kernel
theorem dX2_hold_16 : decode cX2_hold 16 = .ok (.ifCond .ge 8, 3) := by decide +kernel
theorem dX2_hold_19 : decode cX2_hold 19 = .ok (.ldc 61, 2) := by decide +kernel
theorem dX2_hold_21 : decode cX2_hold 21 = .ok (.goto 5, 3) := by decide +kernel
theorem dX2_hold_24 : decode cX2_hold 24 = .ok (.lload_n 0, 1) := by decide +kernel
theorem dX2_hold_25 : decode cX2_hold 25 = .ok (.l2i, 1) := by decide +kernel
theorem dX2_hold_26 : decode cX2_hold 26 = .ok (.ireturn, 1) := by decide +kernel
theorem dJ9_floorDiv_7cf53_0 : decode cJ9_floorDiv_7cf53 0 = .ok (.iload_n 0, 1) := by decide +kernel
theorem dJ9_floorDiv_7cf53_1 : decode cJ9_floorDiv_7cf53 1 = .ok (.iload_n 1, 1) := by decide +kernel
theorem dJ9_floorDiv_7cf53_2 : decode cJ9_floorDiv_7cf53 2 = .ok (.idiv, 1) := by decide +kernel
theorem dJ9_floorDiv_7cf53_3 : decode cJ9_floorDiv_7cf53 3 = .ok (.istore_n 2, 1) := by decide +kernel
theorem dJ9_floorDiv_7cf53_4 : decode cJ9_floorDiv_7cf53 4 = .ok (.iload_n 0, 1) := by decide +kernel
theorem dJ9_floorDiv_7cf53_5 : decode cJ9_floorDiv_7cf53 5 = .ok (.iload_n 1, 1) := by decide +kernel
theorem dJ9_floorDiv_7cf53_6 : decode cJ9_floorDiv_7cf53 6 = .ok (.ixor, 1) := by decide +kernel
theorem dJ9_floorDiv_7cf53_7 : decode cJ9_floorDiv_7cf53 7 = .ok (.ifCond .ge 14, 3) := by decide +kernel
theorem dJ9_floorDiv_7cf53_10 : decode cJ9_floorDiv_7cf53 10 = .ok (.iload_n 2, 1) := by decide +kernel
theorem dJ9_floorDiv_7cf53_11 : decode cJ9_floorDiv_7cf53 11 = .ok (.iload_n 1, 1) := by decide +kernel
theorem dJ9_floorDiv_7cf53_12 : decode cJ9_floorDiv_7cf53 12 = .ok (.imul, 1) := by decide +kernel
theorem dJ9_floorDiv_7cf53_13 : decode cJ9_floorDiv_7cf53 13 = .ok (.iload_n 0, 1) := by decide +kernel
theorem dJ9_floorDiv_7cf53_14 : decode cJ9_floorDiv_7cf53 14 = .ok (.if_icmp .eq 7, 3) := by decide +kernel
theorem dJ9_floorDiv_7cf53_17 : decode cJ9_floorDiv_7cf53 17 = .ok (.iload_n 2, 1) := by decide +kernel
theorem dJ9_floorDiv_7cf53_18 : decode cJ9_floorDiv_7cf53 18 = .ok (.iconst 1, 1) := by decide +kernel
theorem dJ9_floorDiv_7cf53_19 : decode cJ9_floorDiv_7cf53 19 = .ok (.isub, 1) := by decide +kernel
theorem dJ9_floorDiv_7cf53_20 : decode cJ9_floorDiv_7cf53 20 = .ok (.ireturn, 1) := by decide +kernel
theorem dJ9_floorDiv_7cf53_21 : decode cJ9_floorDiv_7cf53 21 = .ok (.iload_n 2, 1) := by decide +kernel
theorem dJ9_floorDiv_7cf53_22 : decode cJ9_floorDiv_7cf53 22 = .ok (.ireturn, 1) := by decide +kernel
theorem dX2_join_0 : decode cX2_join 0 = .ok (.iload_n 0, 1) := by decide +kernel
theorem dX2_join_1 : decode cX2_join 1 = .ok (.tableswitch 145 5 14 #[55, 64, 73, 82, 96, 102, 108, 119, 130, 141], 55) := by decide +kernel
theorem dX2_join_56 : decode cX2_join 56 = .ok (.iload_n 1, 1) := by decide +kernel
theorem dX2_join_57 : decode cX2_join 57 = .ok (.i2l, 1) := by decide +kernel
theorem dX2_join_58 : decode cX2_join 58 = .ok (.iload_n 2, 1) := by decide +kernel
theorem dX2_join_59 : decode cX2_join 59 = .ok (.i2l, 1) := by decide +kernel
theorem dX2_join_60 : decode cX2_join 60 = .ok (.ladd, 1) := by decide +kernel
theorem dX2_join_61 : decode cX2_join 61 = .ok (.invokestatic 40, 3) := by decide +kernel
theorem dX2_join_64 : decode cX2_join 64 = .ok (.ireturn, 1) := by decide +kernel
theorem dX2_join_65 : decode cX2_join 65 = .ok (.iload_n 1, 1) := by decide +kernel
theorem dX2_join_66 : decode cX2_join 66 = .ok (.i2l, 1) := by decide +kernel
theorem dX2_join_67 : decode cX2_join 67 = .ok (.iload_n 2, 1) := by decide +kernel
theorem dX2_join_68 : decode cX2_join 68 = .ok (.i2l, 1) := by decide +kernel
theorem dX2_join_69 : decode cX2_join 69 = .ok (.lsub, 1) := by decide +kernel
theorem dX2_join_70 : decode cX2_join 70 = .ok (.invokestatic 40, 3) := by decide +kernel
theorem dX2_join_73 : decode cX2_join 73 = .ok (.ireturn, 1) := by decide +kernel
theorem dX2_join_74 : decode cX2_join 74 = .ok (.iload_n 1, 1) := by decide +kernel
theorem dX2_join_75 : decode cX2_join 75 = .ok (.i2l, 1) := by decide +kernel
theorem dX2_join_76 : decode cX2_join 76 = .ok (.iload_n 2, 1) := by decide +kernel
theorem dX2_join_77 : decode cX2_join 77 = .ok (.i2l, 1) := by decide +kernel
theorem dX2_join_78 : decode cX2_join 78 = .ok (.lmul, 1) := by decide +kernel
theorem dX2_join_79 : decode cX2_join 79 = .ok (.invokestatic 40, 3) := by decide +kernel
theorem dX2_join_82 : decode cX2_join 82 = .ok (.ireturn, 1) := by decide +kernel
theorem dX2_join_83 : decode cX2_join 83 = .ok (.iload_n 2, 1) := by decide +kernel
theorem dX2_join_84 : decode cX2_join 84 = .ok (.ifCond .ne 7, 3) := by decide +kernel
theorem dX2_join_87 : decode cX2_join 87 = .ok (.iconst 0, 1) := by decide +kernel
theorem dX2_join_88 : decode cX2_join 88 = .ok (.goto 8, 3) := by decide +kernel
theorem dX2_join_91 : decode cX2_join 91 = .ok (.iload_n 1, 1) := by decide +kernel
theorem dX2_join_92 : decode cX2_join 92 = .ok (.iload_n 2, 1) := by decide +kernel
theorem dX2_join_93 : decode cX2_join 93 = .ok (.invokestatic 44, 3) := by decide +kernel
theorem dX2_join_96 : decode cX2_join 96 = .ok (.ireturn, 1) := by decide +kernel
theorem dX2_join_97 : decode cX2_join 97 = .ok (.iload_n 1, 1) := by decide +kernel
theorem dX2_join_98 : decode cX2_join 98 = .ok (.iload_n 2, 1) := by decide +kernel
theorem dX2_join_99 : decode cX2_join 99 = .ok (.invokestatic 50, 3) := by decide +kernel
theorem dX2_join_102 : decode cX2_join 102 = .ok (.ireturn, 1) := by decide +kernel
theorem dX2_join_103 : decode cX2_join 103 = .ok (.iload_n 1, 1) := by decide +kernel
theorem dX2_join_104 : decode cX2_join 104 = .ok (.iload_n 2, 1) := by decide +kernel
theorem dX2_join_105 : decode cX2_join 105 = .ok (.invokestatic 53, 3) := by decide +kernel
theorem dX2_join_108 : decode cX2_join 108 = .ok (.ireturn, 1) := by decide +kernel
theorem dX2_join_109 : decode cX2_join 109 = .ok (.iload_n 1, 1) := by decide +kernel
theorem dX2_join_110 : decode cX2_join 110 = .ok (.iload_n 2, 1) := by decide +kernel
theorem dX2_join_111 : decode cX2_join 111 = .ok (.if_icmp .ge 7, 3) := by decide +kernel
theorem dX2_join_114 : decode cX2_join 114 = .ok (.iconst 1, 1) := by decide +kernel
theorem dX2_join_115 : decode cX2_join 115 = .ok (.goto 4, 3) := by decide +kernel
theorem dX2_join_118 : decode cX2_join 118 = .ok (.iconst 0, 1) := by decide +kernel
theorem dX2_join_119 : decode cX2_join 119 = .ok (.ireturn, 1) := by decide +kernel
theorem dX2_join_120 : decode cX2_join 120 = .ok (.iload_n 1, 1) := by decide +kernel
theorem dX2_join_121 : decode cX2_join 121 = .ok (.iload_n 2, 1) := by decide +kernel
theorem dX2_join_122 : decode cX2_join 122 = .ok (.if_icmp .le 7, 3) := by decide +kernel
theorem dX2_join_125 : decode cX2_join 125 = .ok (.iconst 1, 1) := by decide +kernel
theorem dX2_join_126 : decode cX2_join 126 = .ok (.goto 4, 3) := by decide +kernel
theorem dX2_join_129 : decode cX2_join 129 = .ok (.iconst 0, 1) := by decide +kernel
theorem dX2_join_130 : decode cX2_join 130 = .ok (.ireturn, 1) := by decide +kernel
theorem dX2_join_131 : decode cX2_join 131 = .ok (.iload_n 1, 1) := by decide +kernel
theorem dX2_join_132 : decode cX2_join 132 = .ok (.iload_n 2, 1) := by decide +kernel
theorem dX2_join_133 : decode cX2_join 133 = .ok (.if_icmp .ne 7, 3) := by decide +kernel
theorem dX2_join_136 : decode cX2_join 136 = .ok (.iconst 1, 1) := by decide +kernel
theorem dX2_join_137 : decode cX2_join 137 = .ok (.goto 4, 3) := by decide +kernel
theorem dX2_join_140 : decode cX2_join 140 = .ok (.iconst 0, 1) := by decide +kernel
theorem dX2_join_141 : decode cX2_join 141 = .ok (.ireturn, 1) := by decide +kernel
theorem dX2_join_142 : decode cX2_join 142 = .ok (.iload_n 1, 1) := by decide +kernel
theorem dX2_join_143 : decode cX2_join 143 = .ok (.iload_n 2, 1) := by decide +kernel
theorem dX2_join_144 : decode cX2_join 144 = .ok (.iand, 1) := by decide +kernel
theorem dX2_join_145 : decode cX2_join 145 = .ok (.ireturn, 1) := by decide +kernel
theorem dX2_join_146 : decode cX2_join 146 = .ok (.iload_n 1, 1) := by decide +kernel
theorem dX2_join_147 : decode cX2_join 147 = .ok (.iload_n 2, 1) := by decide +kernel
theorem dX2_join_148 : decode cX2_join 148 = .ok (.ior, 1) := by decide +kernel
theorem dX2_join_149 : decode cX2_join 149 = .ok (.ireturn, 1) := by decide +kernel
theorem dX2_reckon_0 : decode cX2_reckon 0 = .ok (.iconst 0, 1) := by decide +kernel
theorem dX2_reckon_1 : decode cX2_reckon 1 = .ok (.istore_n 2, 1) := by decide +kernel
theorem dX2_reckon_2 : decode cX2_reckon 2 = .ok (.iconst 0, 1) := by decide +kernel
theorem dX2_reckon_3 : decode cX2_reckon 3 = .ok (.istore_n 3, 1) := by decide +kernel
theorem dX2_reckon_4 : decode cX2_reckon 4 = .ok (.iload_n 3, 1) := by decide +kernel
theorem dX2_reckon_5 : decode cX2_reckon 5 = .ok (.aload_n 0, 1) := by decide +kernel
theorem dX2_reckon_6 : decode cX2_reckon 6 = .ok (.getfield 18, 3) := by decide +kernel
theorem dX2_reckon_9 : decode cX2_reckon 9 = .ok (.if_icmp .ge 153, 3) := by decide +kernel
theorem dX2_reckon_12 : decode cX2_reckon 12 = .ok (.iload_n 3, 1) := by decide +kernel
theorem dX2_reckon_13 : decode cX2_reckon 13 = .ok (.aload_n 0, 1) := by decide +kernel
theorem dX2_reckon_14 : decode cX2_reckon 14 = .ok (.getfield 11, 3) := by decide +kernel
theorem dX2_reckon_17 : decode cX2_reckon 17 = .ok (.arraylength, 1) := by decide +kernel
theorem dX2_reckon_18 : decode cX2_reckon 18 = .ok (.if_icmp .ge 144, 3) := by decide +kernel
theorem dX2_reckon_21 : decode cX2_reckon 21 = .ok (.aload_n 0, 1) := by decide +kernel
theorem dX2_reckon_22 : decode cX2_reckon 22 = .ok (.getfield 11, 3) := by decide +kernel
theorem dX2_reckon_25 : decode cX2_reckon 25 = .ok (.iload_n 3, 1) := by decide +kernel
theorem dX2_reckon_26 : decode cX2_reckon 26 = .ok (.iaload, 1) := by decide +kernel
theorem dX2_reckon_27 : decode cX2_reckon 27 = .ok (.bipush 16, 2) := by decide +kernel
theorem dX2_reckon_29 : decode cX2_reckon 29 = .ok (.irem, 1) := by decide +kernel
theorem dX2_reckon_30 : decode cX2_reckon 30 = .ok (.istore 4, 2) := by decide +kernel
theorem dX2_reckon_32 : decode cX2_reckon 32 = .ok (.iload 4, 2) := by decide +kernel
theorem dX2_reckon_34 : decode cX2_reckon 34 = .ok (.iconst 1, 1) := by decide +kernel
theorem dX2_reckon_35 : decode cX2_reckon 35 = .ok (.if_icmp .gt 51, 3) := by decide +kernel
theorem dX2_reckon_38 : decode cX2_reckon 38 = .ok (.iload_n 2, 1) := by decide +kernel
theorem dX2_reckon_39 : decode cX2_reckon 39 = .ok (.aload_n 0, 1) := by decide +kernel
theorem dX2_reckon_40 : decode cX2_reckon 40 = .ok (.getfield 15, 3) := by decide +kernel
theorem dX2_reckon_43 : decode cX2_reckon 43 = .ok (.arraylength, 1) := by decide +kernel
theorem dX2_reckon_44 : decode cX2_reckon 44 = .ok (.if_icmp .ge 112, 3) := by decide +kernel
theorem dX2_reckon_47 : decode cX2_reckon 47 = .ok (.aload_n 0, 1) := by decide +kernel
theorem dX2_reckon_48 : decode cX2_reckon 48 = .ok (.getfield 11, 3) := by decide +kernel
theorem dX2_reckon_51 : decode cX2_reckon 51 = .ok (.iload_n 3, 1) := by decide +kernel
theorem dX2_reckon_52 : decode cX2_reckon 52 = .ok (.iaload, 1) := by decide +kernel
theorem dX2_reckon_53 : decode cX2_reckon 53 = .ok (.bipush 16, 2) := by decide +kernel
theorem dX2_reckon_55 : decode cX2_reckon 55 = .ok (.idiv, 1) := by decide +kernel
theorem dX2_reckon_56 : decode cX2_reckon 56 = .ok (.istore 5, 2) := by decide +kernel
theorem dX2_reckon_58 : decode cX2_reckon 58 = .ok (.aload_n 0, 1) := by decide +kernel
theorem dX2_reckon_59 : decode cX2_reckon 59 = .ok (.getfield 15, 3) := by decide +kernel
theorem dX2_reckon_62 : decode cX2_reckon 62 = .ok (.iload_n 2, 1) := by decide +kernel
theorem dX2_reckon_63 : decode cX2_reckon 63 = .ok (.iload 4, 2) := by decide +kernel
theorem dX2_reckon_65 : decode cX2_reckon 65 = .ok (.ifCond .ne 8, 3) := by decide +kernel
theorem dX2_reckon_68 : decode cX2_reckon 68 = .ok (.iload 5, 2) := by decide +kernel
theorem dX2_reckon_70 : decode cX2_reckon 70 = .ok (.goto 9, 3) := by decide +kernel
theorem dX2_reckon_73 : decode cX2_reckon 73 = .ok (.aload_n 1, 1) := by decide +kernel
theorem dX2_reckon_74 : decode cX2_reckon 74 = .ok (.iload 5, 2) := by decide +kernel
theorem dX2_reckon_76 : decode cX2_reckon 76 = .ok (.invokestatic 28, 3) := by decide +kernel
theorem dX2_reckon_79 : decode cX2_reckon 79 = .ok (.iastore, 1) := by decide +kernel
theorem dX2_reckon_80 : decode cX2_reckon 80 = .ok (.iinc 2 1, 3) := by decide +kernel
theorem dX2_reckon_83 : decode cX2_reckon 83 = .ok (.goto 73, 3) := by decide +kernel
theorem dX2_reckon_86 : decode cX2_reckon 86 = .ok (.iload 4, 2) := by decide +kernel
theorem dX2_reckon_88 : decode cX2_reckon 88 = .ok (.iconst 4, 1) := by decide +kernel
theorem dX2_reckon_89 : decode cX2_reckon 89 = .ok (.if_icmp .gt 32, 3) := by decide +kernel
theorem dX2_reckon_92 : decode cX2_reckon 92 = .ok (.iload_n 2, 1) := by decide +kernel
theorem dX2_reckon_93 : decode cX2_reckon 93 = .ok (.ifCond .le 63, 3) := by decide +kernel
theorem dX2_reckon_96 : decode cX2_reckon 96 = .ok (.aload_n 0, 1) := by decide +kernel
theorem dX2_reckon_97 : decode cX2_reckon 97 = .ok (.getfield 15, 3) := by decide +kernel
theorem dX2_reckon_100 : decode cX2_reckon 100 = .ok (.iload_n 2, 1) := by decide +kernel
theorem dX2_reckon_101 : decode cX2_reckon 101 = .ok (.iconst 1, 1) := by decide +kernel
theorem dX2_reckon_102 : decode cX2_reckon 102 = .ok (.isub, 1) := by decide +kernel
theorem dX2_reckon_103 : decode cX2_reckon 103 = .ok (.iload 4, 2) := by decide +kernel
theorem dX2_reckon_105 : decode cX2_reckon 105 = .ok (.aload_n 0, 1) := by decide +kernel
theorem dX2_reckon_106 : decode cX2_reckon 106 = .ok (.getfield 15, 3) := by decide +kernel
theorem dX2_reckon_109 : decode cX2_reckon 109 = .ok (.iload_n 2, 1) := by decide +kernel
theorem dX2_reckon_110 : decode cX2_reckon 110 = .ok (.iconst 1, 1) := by decide +kernel
theorem dX2_reckon_111 : decode cX2_reckon 111 = .ok (.isub, 1) := by decide +kernel
theorem dX2_reckon_112 : decode cX2_reckon 112 = .ok (.iaload, 1) := by decide +kernel
theorem dX2_reckon_113 : decode cX2_reckon 113 = .ok (.aload_n 1, 1) := by decide +kernel
theorem dX2_reckon_114 : decode cX2_reckon 114 = .ok (.invokestatic 32, 3) := by decide +kernel
theorem dX2_reckon_117 : decode cX2_reckon 117 = .ok (.iastore, 1) := by decide +kernel
theorem dX2_reckon_118 : decode cX2_reckon 118 = .ok (.goto 38, 3) := by decide +kernel
theorem dX2_reckon_121 : decode cX2_reckon 121 = .ok (.iload_n 2, 1) := by decide +kernel
theorem dX2_reckon_122 : decode cX2_reckon 122 = .ok (.iconst 1, 1) := by decide +kernel
theorem dX2_reckon_123 : decode cX2_reckon 123 = .ok (.if_icmp .le 33, 3) := by decide +kernel
theorem dX2_reckon_126 : decode cX2_reckon 126 = .ok (.iinc 2 (-1), 3) := by decide +kernel
theorem dX2_reckon_129 : decode cX2_reckon 129 = .ok (.aload_n 0, 1) := by decide +kernel
theorem dX2_reckon_130 : decode cX2_reckon 130 = .ok (.getfield 15, 3) := by decide +kernel
theorem dX2_reckon_133 : decode cX2_reckon 133 = .ok (.iload_n 2, 1) := by decide +kernel
theorem dX2_reckon_134 : decode cX2_reckon 134 = .ok (.iconst 1, 1) := by decide +kernel
theorem dX2_reckon_135 : decode cX2_reckon 135 = .ok (.isub, 1) := by decide +kernel
theorem dX2_reckon_136 : decode cX2_reckon 136 = .ok (.iload 4, 2) := by decide +kernel
theorem dX2_reckon_138 : decode cX2_reckon 138 = .ok (.aload_n 0, 1) := by decide +kernel
theorem dX2_reckon_139 : decode cX2_reckon 139 = .ok (.getfield 15, 3) := by decide +kernel
theorem dX2_reckon_142 : decode cX2_reckon 142 = .ok (.iload_n 2, 1) := by decide +kernel
theorem dX2_reckon_143 : decode cX2_reckon 143 = .ok (.iconst 1, 1) := by decide +kernel
theorem dX2_reckon_144 : decode cX2_reckon 144 = .ok (.isub, 1) := by decide +kernel
theorem dX2_reckon_145 : decode cX2_reckon 145 = .ok (.iaload, 1) := by decide +kernel
theorem dX2_reckon_146 : decode cX2_reckon 146 = .ok (.aload_n 0, 1) := by decide +kernel
theorem dX2_reckon_147 : decode cX2_reckon 147 = .ok (.getfield 15, 3) := by decide +kernel
theorem dX2_reckon_150 : decode cX2_reckon 150 = .ok (.iload_n 2, 1) := by decide +kernel
theorem dX2_reckon_151 : decode cX2_reckon 151 = .ok (.iaload, 1) := by decide +kernel
theorem dX2_reckon_152 : decode cX2_reckon 152 = .ok (.invokestatic 36, 3) := by decide +kernel
theorem dX2_reckon_155 : decode cX2_reckon 155 = .ok (.iastore, 1) := by decide +kernel
theorem dX2_reckon_156 : decode cX2_reckon 156 = .ok (.iinc 3 1, 3) := by decide +kernel
theorem dX2_reckon_159 : decode cX2_reckon 159 = .ok (.goto (-155), 3) := by decide +kernel
theorem dX2_reckon_162 : decode cX2_reckon 162 = .ok (.iload_n 2, 1) := by decide +kernel
theorem dX2_reckon_163 : decode cX2_reckon 163 = .ok (.ifCond .le 12, 3) := by decide +kernel
theorem dX2_reckon_166 : decode cX2_reckon 166 = .ok (.aload_n 0, 1) := by decide +kernel
theorem dX2_reckon_167 : decode cX2_reckon 167 = .ok (.getfield 15, 3) := by decide +kernel
theorem dX2_reckon_170 : decode cX2_reckon 170 = .ok (.iconst 0, 1) := by decide +kernel
theorem dX2_reckon_171 : decode cX2_reckon 171 = .ok (.iaload, 1) := by decide +kernel
theorem dX2_reckon_172 : decode cX2_reckon 172 = .ok (.goto 4, 3) := by decide +kernel
theorem dX2_reckon_175 : decode cX2_reckon 175 = .ok (.iconst 0, 1) := by decide +kernel
theorem dX2_reckon_176 : decode cX2_reckon 176 = .ok (.ireturn, 1) := by decide +kernel
theorem dX7_firstWayWithin_0 : decode cX7_firstWayWithin 0 = .ok (.iconst 0, 1) := by decide +kernel
theorem dX7_firstWayWithin_1 : decode cX7_firstWayWithin 1 = .ok (.istore_n 3, 1) := by decide +kernel
theorem dX7_firstWayWithin_2 : decode cX7_firstWayWithin 2 = .ok (.iload_n 3, 1) := by decide +kernel
theorem dX7_firstWayWithin_3 : decode cX7_firstWayWithin 3 = .ok (.aload_n 0, 1) := by decide +kernel
theorem dX7_firstWayWithin_4 : decode cX7_firstWayWithin 4 = .ok (.getfield 60, 3) := by decide +kernel
theorem dX7_firstWayWithin_7 : decode cX7_firstWayWithin 7 = .ok (.iload_n 1, 1) := by decide +kernel
theorem dX7_firstWayWithin_8 : decode cX7_firstWayWithin 8 = .ok (.iaload, 1) := by decide +kernel
theorem dX7_firstWayWithin_9 : decode cX7_firstWayWithin 9 = .ok (.if_icmp .ge 29, 3) := by decide +kernel
theorem dX7_firstWayWithin_12 : decode cX7_firstWayWithin 12 = .ok (.aload_n 0, 1) := by decide +kernel
theorem dX7_firstWayWithin_13 : decode cX7_firstWayWithin 13 = .ok (.iload_n 1, 1) := by decide +kernel
theorem dX7_firstWayWithin_14 : decode cX7_firstWayWithin 14 = .ok (.iload_n 3, 1) := by decide +kernel
theorem dX7_firstWayWithin_15 : decode cX7_firstWayWithin 15 = .ok (.invokevirtual 83, 3) := by decide +kernel
theorem dX7_firstWayWithin_18 : decode cX7_firstWayWithin 18 = .ok (.istore 4, 2) := by decide +kernel
theorem dX7_firstWayWithin_20 : decode cX7_firstWayWithin 20 = .ok (.iload 4, 2) := by decide +kernel
theorem dX7_firstWayWithin_22 : decode cX7_firstWayWithin 22 = .ok (.iload_n 2, 1) := by decide +kernel
theorem dX7_firstWayWithin_23 : decode cX7_firstWayWithin 23 = .ok (.iconst (-1), 1) := by decide +kernel
theorem dX7_firstWayWithin_24 : decode cX7_firstWayWithin 24 = .ok (.ixor, 1) := by decide +kernel
theorem dX7_firstWayWithin_25 : decode cX7_firstWayWithin 25 = .ok (.iand, 1) := by decide +kernel
theorem dX7_firstWayWithin_26 : decode cX7_firstWayWithin 26 = .ok (.ifCond .ne 6, 3) := by decide +kernel
theorem dX7_firstWayWithin_29 : decode cX7_firstWayWithin 29 = .ok (.iload 4, 2) := by decide +kernel
theorem dX7_firstWayWithin_31 : decode cX7_firstWayWithin 31 = .ok (.ireturn, 1) := by decide +kernel
theorem dX7_firstWayWithin_32 : decode cX7_firstWayWithin 32 = .ok (.iinc 3 1, 3) := by decide +kernel
theorem dX7_firstWayWithin_35 : decode cX7_firstWayWithin 35 = .ok (.goto (-33), 3) := by decide +kernel
theorem dX7_firstWayWithin_38 : decode cX7_firstWayWithin 38 = .ok (.iconst 0, 1) := by decide +kernel
theorem dX7_firstWayWithin_39 : decode cX7_firstWayWithin 39 = .ok (.ireturn, 1) := by decide +kernel
theorem dX0_choose_0 : decode cX0_choose 0 = .ok (.aload_n 0, 1) := by decide +kernel
theorem dX0_choose_1 : decode cX0_choose 1 = .ok (.getfield 17, 3) := by decide +kernel
theorem dX0_choose_4 : decode cX0_choose 4 = .ok (.iload_n 2, 1) := by decide +kernel
theorem dX0_choose_5 : decode cX0_choose 5 = .ok (.aload_n 1, 1) := by decide +kernel
theorem dX0_choose_6 : decode cX0_choose 6 = .ok (.invokevirtual 21, 3) := by decide +kernel
theorem dX0_choose_9 : decode cX0_choose 9 = .ok (.invokevirtual 27, 3) := by decide +kernel
theorem dX0_choose_12 : decode cX0_choose 12 = .ok (.istore_n 3, 1) := by decide +kernel
theorem dX0_choose_13 : decode cX0_choose 13 = .ok (.iload_n 3, 1) := by decide +kernel
theorem dX0_choose_14 : decode cX0_choose 14 = .ok (.ifCond .ne 5, 3) := by decide +kernel
theorem dX0_choose_17 : decode cX0_choose 17 = .ok (.iconst 0, 1) := by decide +kernel
theorem dX0_choose_18 : decode cX0_choose 18 = .ok (.ireturn, 1) := by decide +kernel
theorem dX0_choose_19 : decode cX0_choose 19 = .ok (.aload_n 0, 1) := by decide +kernel
theorem dX0_choose_20 : decode cX0_choose 20 = .ok (.getfield 11, 3) := by decide +kernel
theorem dX0_choose_23 : decode cX0_choose 23 = .ok (.iconst 2, 1) := by decide +kernel
theorem dX0_choose_24 : decode cX0_choose 24 = .ok (.aload_n 1, 1) := by decide +kernel
theorem dX0_choose_25 : decode cX0_choose 25 = .ok (.getfield 33, 3) := by decide +kernel
theorem dX0_choose_28 : decode cX0_choose 28 = .ok (.iastore, 1) := by decide +kernel
theorem dX0_choose_29 : decode cX0_choose 29 = .ok (.aload_n 0, 1) := by decide +kernel
theorem dX0_choose_30 : decode cX0_choose 30 = .ok (.getfield 11, 3) := by decide +kernel
theorem dX0_choose_33 : decode cX0_choose 33 = .ok (.iconst 4, 1) := by decide +kernel
theorem dX0_choose_34 : decode cX0_choose 34 = .ok (.aload_n 1, 1) := by decide +kernel
theorem dX0_choose_35 : decode cX0_choose 35 = .ok (.getfield 37, 3) := by decide +kernel
theorem dX0_choose_38 : decode cX0_choose 38 = .ok (.iload_n 2, 1) := by decide +kernel
theorem dX0_choose_39 : decode cX0_choose 39 = .ok (.iaload, 1) := by decide +kernel
theorem dX0_choose_40 : decode cX0_choose 40 = .ok (.iastore, 1) := by decide +kernel
theorem dX0_choose_41 : decode cX0_choose 41 = .ok (.iconst 0, 1) := by decide +kernel
theorem dX0_choose_42 : decode cX0_choose 42 = .ok (.istore 4, 2) := by decide +kernel
theorem dX0_choose_44 : decode cX0_choose 44 = .ok (.iconst 1, 1) := by decide +kernel
theorem dX0_choose_45 : decode cX0_choose 45 = .ok (.istore 5, 2) := by decide +kernel
theorem dX0_choose_47 : decode cX0_choose 47 = .ok (.iload 5, 2) := by decide +kernel
theorem dX0_choose_49 : decode cX0_choose 49 = .ok (.aload_n 0, 1) := by decide +kernel
theorem dX0_choose_50 : decode cX0_choose 50 = .ok (.getfield 17, 3) := by decide +kernel
theorem dX0_choose_53 : decode cX0_choose 53 = .ok (.getfield 40, 3) := by decide +kernel
theorem dX0_choose_56 : decode cX0_choose 56 = .ok (.if_icmp .gt 70, 3) := by decide +kernel
theorem dX0_choose_59 : decode cX0_choose 59 = .ok (.iload_n 3, 1) := by decide +kernel
theorem dX0_choose_60 : decode cX0_choose 60 = .ok (.iload 5, 2) := by decide +kernel
theorem dX0_choose_62 : decode cX0_choose 62 = .ok (.iconst 1, 1) := by decide +kernel
theorem dX0_choose_63 : decode cX0_choose 63 = .ok (.isub, 1) := by decide +kernel
theorem dX0_choose_64 : decode cX0_choose 64 = .ok (.ishr, 1) := by decide +kernel
theorem dX0_choose_65 : decode cX0_choose 65 = .ok (.iconst 1, 1) := by decide +kernel
theorem dX0_choose_66 : decode cX0_choose 66 = .ok (.iand, 1) := by decide +kernel
theorem dX0_choose_67 : decode cX0_choose 67 = .ok (.iconst 1, 1) := by decide +kernel
theorem dX0_choose_68 : decode cX0_choose 68 = .ok (.if_icmp .ne 52, 3) := by decide +kernel
theorem dX0_choose_71 : decode cX0_choose 71 = .ok (.aload_n 0, 1) := by decide +kernel
theorem dX0_choose_72 : decode cX0_choose 72 = .ok (.getfield 11, 3) := by decide +kernel
theorem dX0_choose_75 : decode cX0_choose 75 = .ok (.iconst 0, 1) := by decide +kernel
theorem dX0_choose_76 : decode cX0_choose 76 = .ok (.iload 5, 2) := by decide +kernel
theorem dX0_choose_78 : decode cX0_choose 78 = .ok (.iastore, 1) := by decide +kernel
theorem dX0_choose_79 : decode cX0_choose 79 = .ok (.aload_n 0, 1) := by decide +kernel
theorem dX0_choose_80 : decode cX0_choose 80 = .ok (.getfield 11, 3) := by decide +kernel
theorem dX0_choose_83 : decode cX0_choose 83 = .ok (.iconst 1, 1) := by decide +kernel
theorem dX0_choose_84 : decode cX0_choose 84 = .ok (.aload_n 1, 1) := by decide +kernel
theorem dX0_choose_85 : decode cX0_choose 85 = .ok (.getfield 43, 3) := by decide +kernel
theorem dX0_choose_88 : decode cX0_choose 88 = .ok (.iload 5, 2) := by decide +kernel
theorem dX0_choose_90 : decode cX0_choose 90 = .ok (.iaload, 1) := by decide +kernel
theorem dX0_choose_91 : decode cX0_choose 91 = .ok (.iastore, 1) := by decide +kernel
theorem dX0_choose_92 : decode cX0_choose 92 = .ok (.aload_n 0, 1) := by decide +kernel
theorem dX0_choose_93 : decode cX0_choose 93 = .ok (.getfield 17, 3) := by decide +kernel
theorem dX0_choose_96 : decode cX0_choose 96 = .ok (.getfield 46, 3) := by decide +kernel
theorem dX0_choose_99 : decode cX0_choose 99 = .ok (.aload_n 0, 1) := by decide +kernel
theorem dX0_choose_100 : decode cX0_choose 100 = .ok (.getfield 11, 3) := by decide +kernel
theorem dX0_choose_103 : decode cX0_choose 103 = .ok (.invokevirtual 50, 3) := by decide +kernel
theorem dX0_choose_106 : decode cX0_choose 106 = .ok (.ifCond .eq 14, 3) := by decide +kernel
theorem dX0_choose_109 : decode cX0_choose 109 = .ok (.iload 4, 2) := by decide +kernel
theorem dX0_choose_111 : decode cX0_choose 111 = .ok (.iconst 1, 1) := by decide +kernel
theorem dX0_choose_112 : decode cX0_choose 112 = .ok (.iload 5, 2) := by decide +kernel
theorem dX0_choose_114 : decode cX0_choose 114 = .ok (.iconst 1, 1) := by decide +kernel
theorem dX0_choose_115 : decode cX0_choose 115 = .ok (.isub, 1) := by decide +kernel
theorem dX0_choose_116 : decode cX0_choose 116 = .ok (.ishl, 1) := by decide +kernel
theorem dX0_choose_117 : decode cX0_choose 117 = .ok (.ior, 1) := by decide +kernel
theorem dX0_choose_118 : decode cX0_choose 118 = .ok (.istore 4, 2) := by decide +kernel
theorem dX0_choose_120 : decode cX0_choose 120 = .ok (.iinc 5 1, 3) := by decide +kernel
theorem dX0_choose_123 : decode cX0_choose 123 = .ok (.goto (-76), 3) := by decide +kernel
theorem dX0_choose_126 : decode cX0_choose 126 = .ok (.aload_n 0, 1) := by decide +kernel
theorem dX0_choose_127 : decode cX0_choose 127 = .ok (.getfield 17, 3) := by decide +kernel
theorem dX0_choose_130 : decode cX0_choose 130 = .ok (.iload_n 2, 1) := by decide +kernel
theorem dX0_choose_131 : decode cX0_choose 131 = .ok (.iload 4, 2) := by decide +kernel
theorem dX0_choose_133 : decode cX0_choose 133 = .ok (.invokevirtual 54, 3) := by decide +kernel
theorem dX0_choose_136 : decode cX0_choose 136 = .ok (.ireturn, 1) := by decide +kernel
theorem dX9_addPieces_0 : decode cX9_addPieces 0 = .ok (.aload_n 0, 1) := by decide +kernel
theorem dX9_addPieces_1 : decode cX9_addPieces 1 = .ok (.getfield 15, 3) := by decide +kernel
theorem dX9_addPieces_4 : decode cX9_addPieces 4 = .ok (.iload_n 1, 1) := by decide +kernel
theorem dX9_addPieces_5 : decode cX9_addPieces 5 = .ok (.sipush 999, 3) := by decide +kernel
theorem dX9_addPieces_8 : decode cX9_addPieces 8 = .ok (.aload_n 0, 1) := by decide +kernel
theorem dX9_addPieces_9 : decode cX9_addPieces 9 = .ok (.getfield 15, 3) := by decide +kernel
theorem dX9_addPieces_12 : decode cX9_addPieces 12 = .ok (.iload_n 1, 1) := by decide +kernel
theorem dX9_addPieces_13 : decode cX9_addPieces 13 = .ok (.iaload, 1) := by decide +kernel
theorem dX9_addPieces_14 : decode cX9_addPieces 14 = .ok (.iload_n 2, 1) := by decide +kernel
theorem dX9_addPieces_15 : decode cX9_addPieces 15 = .ok (.iadd, 1) := by decide +kernel
theorem dX9_addPieces_16 : decode cX9_addPieces 16 = .ok (.invokestatic 75, 3) := by decide +kernel
theorem dX9_addPieces_19 : decode cX9_addPieces 19 = .ok (.iastore, 1) := by decide +kernel
theorem dX9_addPieces_20 : decode cX9_addPieces 20 = .ok (.return_, 1) := by decide +kernel
theorem dX9_goHungry_0 : decode cX9_goHungry 0 = .ok (.aload_n 0, 1) := by decide +kernel
theorem dX9_goHungry_1 : decode cX9_goHungry 1 = .ok (.getfield 19, 3) := by decide +kernel
theorem dX9_goHungry_4 : decode cX9_goHungry 4 = .ok (.iload_n 1, 1) := by decide +kernel
theorem dX9_goHungry_5 : decode cX9_goHungry 5 = .ok (.bipush 99, 2) := by decide +kernel
theorem dX9_goHungry_7 : decode cX9_goHungry 7 = .ok (.aload_n 0, 1) := by decide +kernel
theorem dX9_goHungry_8 : decode cX9_goHungry 8 = .ok (.getfield 19, 3) := by decide +kernel
theorem dX9_goHungry_11 : decode cX9_goHungry 11 = .ok (.iload_n 1, 1) := by decide +kernel
theorem dX9_goHungry_12 : decode cX9_goHungry 12 = .ok (.iaload, 1) := by decide +kernel
theorem dX9_goHungry_13 : decode cX9_goHungry 13 = .ok (.iconst 1, 1) := by decide +kernel
theorem dX9_goHungry_14 : decode cX9_goHungry 14 = .ok (.iadd, 1) := by decide +kernel
theorem dX9_goHungry_15 : decode cX9_goHungry 15 = .ok (.invokestatic 75, 3) := by decide +kernel
theorem dX9_goHungry_18 : decode cX9_goHungry 18 = .ok (.iastore, 1) := by decide +kernel
theorem dX9_goHungry_19 : decode cX9_goHungry 19 = .ok (.return_, 1) := by decide +kernel
theorem dX9_move_0 : decode cX9_move 0 = .ok (.iconst 1, 1) := by decide +kernel
theorem dX9_move_1 : decode cX9_move 1 = .ok (.istore_n 3, 1) := by decide +kernel
theorem dX9_move_2 : decode cX9_move 2 = .ok (.iload_n 3, 1) := by decide +kernel
theorem dX9_move_3 : decode cX9_move 3 = .ok (.bipush 24, 2) := by decide +kernel
theorem dX9_move_5 : decode cX9_move 5 = .ok (.if_icmp .gt 30, 3) := by decide +kernel
theorem dX9_move_8 : decode cX9_move 8 = .ok (.iload_n 1, 1) := by decide +kernel
theorem dX9_move_9 : decode cX9_move 9 = .ok (.iload_n 3, 1) := by decide +kernel
theorem dX9_move_10 : decode cX9_move 10 = .ok (.iconst 1, 1) := by decide +kernel
theorem dX9_move_11 : decode cX9_move 11 = .ok (.isub, 1) := by decide +kernel
theorem dX9_move_12 : decode cX9_move 12 = .ok (.ishr, 1) := by decide +kernel
theorem dX9_move_13 : decode cX9_move 13 = .ok (.iconst 1, 1) := by decide +kernel
theorem dX9_move_14 : decode cX9_move 14 = .ok (.iand, 1) := by decide +kernel
theorem dX9_move_15 : decode cX9_move 15 = .ok (.iconst 1, 1) := by decide +kernel
theorem dX9_move_16 : decode cX9_move 16 = .ok (.if_icmp .ne 13, 3) := by decide +kernel
theorem dX9_move_19 : decode cX9_move 19 = .ok (.aload_n 0, 1) := by decide +kernel
theorem dX9_move_20 : decode cX9_move 20 = .ok (.getfield 15, 3) := by decide +kernel
theorem dX9_move_23 : decode cX9_move 23 = .ok (.iload_n 3, 1) := by decide +kernel
theorem dX9_move_24 : decode cX9_move 24 = .ok (.dup2, 1) := by decide +kernel
theorem dX9_move_25 : decode cX9_move 25 = .ok (.iaload, 1) := by decide +kernel
theorem dX9_move_26 : decode cX9_move 26 = .ok (.iload_n 2, 1) := by decide +kernel
theorem dX9_move_27 : decode cX9_move 27 = .ok (.iadd, 1) := by decide +kernel
theorem dX9_move_28 : decode cX9_move 28 = .ok (.iastore, 1) := by decide +kernel
theorem dX9_move_29 : decode cX9_move 29 = .ok (.iinc 3 1, 3) := by decide +kernel
theorem dX9_move_32 : decode cX9_move 32 = .ok (.goto (-30), 3) := by decide +kernel
theorem dX9_move_35 : decode cX9_move 35 = .ok (.return_, 1) := by decide +kernel
theorem dX9_hand_0 : decode cX9_hand 0 = .ok (.aload_n 0, 1) := by decide +kernel
theorem dX9_hand_1 : decode cX9_hand 1 = .ok (.iload_n 2, 1) := by decide +kernel
theorem dX9_hand_2 : decode cX9_hand 2 = .ok (.iconst (-1), 1) := by decide +kernel
theorem dX9_hand_3 : decode cX9_hand 3 = .ok (.invokevirtual 81, 3) := by decide +kernel
theorem dX9_hand_6 : decode cX9_hand 6 = .ok (.aload_n 0, 1) := by decide +kernel
theorem dX9_hand_7 : decode cX9_hand 7 = .ok (.getfield 19, 3) := by decide +kernel
theorem dX9_hand_10 : decode cX9_hand 10 = .ok (.iload_n 1, 1) := by decide +kernel
theorem dX9_hand_11 : decode cX9_hand 11 = .ok (.iconst 0, 1) := by decide +kernel
theorem dX9_hand_12 : decode cX9_hand 12 = .ok (.iastore, 1) := by decide +kernel
theorem dX9_hand_13 : decode cX9_hand 13 = .ok (.aload_n 0, 1) := by decide +kernel
theorem dX9_hand_14 : decode cX9_hand 14 = .ok (.getfield 22, 3) := by decide +kernel
theorem dX9_hand_17 : decode cX9_hand 17 = .ok (.iload_n 1, 1) := by decide +kernel
theorem dX9_hand_18 : decode cX9_hand 18 = .ok (.sipush 999, 3) := by decide +kernel
theorem dX9_hand_21 : decode cX9_hand 21 = .ok (.aload_n 0, 1) := by decide +kernel
theorem dX9_hand_22 : decode cX9_hand 22 = .ok (.getfield 22, 3) := by decide +kernel
theorem dX9_hand_25 : decode cX9_hand 25 = .ok (.iload_n 1, 1) := by decide +kernel
theorem dX9_hand_26 : decode cX9_hand 26 = .ok (.iaload, 1) := by decide +kernel
theorem dX9_hand_27 : decode cX9_hand 27 = .ok (.iconst 1, 1) := by decide +kernel
theorem dX9_hand_28 : decode cX9_hand 28 = .ok (.iadd, 1) := by decide +kernel
theorem dX9_hand_29 : decode cX9_hand 29 = .ok (.invokestatic 75, 3) := by decide +kernel
theorem dX9_hand_32 : decode cX9_hand 32 = .ok (.iastore, 1) := by decide +kernel
theorem dX9_hand_33 : decode cX9_hand 33 = .ok (.aload_n 0, 1) := by decide +kernel
theorem dX9_hand_34 : decode cX9_hand 34 = .ok (.getfield 28, 3) := by decide +kernel
theorem dX9_hand_37 : decode cX9_hand 37 = .ok (.aload_n 0, 1) := by decide +kernel
theorem dX9_hand_38 : decode cX9_hand 38 = .ok (.getfield 31, 3) := by decide +kernel
theorem dX9_hand_41 : decode cX9_hand 41 = .ok (.iadd, 1) := by decide +kernel
theorem dX9_hand_42 : decode cX9_hand 42 = .ok (.bipush 40, 2) := by decide +kernel
theorem dX9_hand_44 : decode cX9_hand 44 = .ok (.irem, 1) := by decide +kernel
theorem dX9_hand_45 : decode cX9_hand 45 = .ok (.iconst 3, 1) := by decide +kernel
theorem dX9_hand_46 : decode cX9_hand 46 = .ok (.imul, 1) := by decide +kernel
theorem dX9_hand_47 : decode cX9_hand 47 = .ok (.istore_n 3, 1) := by decide +kernel
theorem dX9_hand_48 : decode cX9_hand 48 = .ok (.aload_n 0, 1) := by decide +kernel
theorem dX9_hand_49 : decode cX9_hand 49 = .ok (.getfield 25, 3) := by decide +kernel
theorem dX9_hand_52 : decode cX9_hand 52 = .ok (.iload_n 3, 1) := by decide +kernel
theorem dX9_hand_53 : decode cX9_hand 53 = .ok (.aload_n 0, 1) := by decide +kernel
theorem dX9_hand_54 : decode cX9_hand 54 = .ok (.getfield 9, 3) := by decide +kernel
theorem dX9_hand_57 : decode cX9_hand 57 = .ok (.iastore, 1) := by decide +kernel
theorem dX9_hand_58 : decode cX9_hand 58 = .ok (.aload_n 0, 1) := by decide +kernel
theorem dX9_hand_59 : decode cX9_hand 59 = .ok (.getfield 25, 3) := by decide +kernel
theorem dX9_hand_62 : decode cX9_hand 62 = .ok (.iload_n 3, 1) := by decide +kernel
theorem dX9_hand_63 : decode cX9_hand 63 = .ok (.iconst 1, 1) := by decide +kernel
theorem dX9_hand_64 : decode cX9_hand 64 = .ok (.iadd, 1) := by decide +kernel
theorem dX9_hand_65 : decode cX9_hand 65 = .ok (.iload_n 1, 1) := by decide +kernel
theorem dX9_hand_66 : decode cX9_hand 66 = .ok (.iastore, 1) := by decide +kernel
theorem dX9_hand_67 : decode cX9_hand 67 = .ok (.aload_n 0, 1) := by decide +kernel
theorem dX9_hand_68 : decode cX9_hand 68 = .ok (.getfield 25, 3) := by decide +kernel
theorem dX9_hand_71 : decode cX9_hand 71 = .ok (.iload_n 3, 1) := by decide +kernel
theorem dX9_hand_72 : decode cX9_hand 72 = .ok (.iconst 2, 1) := by decide +kernel
theorem dX9_hand_73 : decode cX9_hand 73 = .ok (.iadd, 1) := by decide +kernel
theorem dX9_hand_74 : decode cX9_hand 74 = .ok (.iload_n 2, 1) := by decide +kernel
theorem dX9_hand_75 : decode cX9_hand 75 = .ok (.iastore, 1) := by decide +kernel
theorem dX9_hand_76 : decode cX9_hand 76 = .ok (.aload_n 0, 1) := by decide +kernel
theorem dX9_hand_77 : decode cX9_hand 77 = .ok (.getfield 31, 3) := by decide +kernel
theorem dX9_hand_80 : decode cX9_hand 80 = .ok (.bipush 40, 2) := by decide +kernel
theorem dX9_hand_82 : decode cX9_hand 82 = .ok (.if_icmp .ge 16, 3) := by decide +kernel
theorem dX9_hand_85 : decode cX9_hand 85 = .ok (.aload_n 0, 1) := by decide +kernel
theorem dX9_hand_86 : decode cX9_hand 86 = .ok (.dup, 1) := by decide +kernel
theorem dX9_hand_87 : decode cX9_hand 87 = .ok (.getfield 31, 3) := by decide +kernel
theorem dX9_hand_90 : decode cX9_hand 90 = .ok (.iconst 1, 1) := by decide +kernel
theorem dX9_hand_91 : decode cX9_hand 91 = .ok (.iadd, 1) := by decide +kernel
theorem dX9_hand_92 : decode cX9_hand 92 = .ok (.putfield 31, 3) := by decide +kernel
theorem dX9_hand_95 : decode cX9_hand 95 = .ok (.goto 16, 3) := by decide +kernel
theorem dX9_hand_98 : decode cX9_hand 98 = .ok (.aload_n 0, 1) := by decide +kernel
theorem dX9_hand_99 : decode cX9_hand 99 = .ok (.aload_n 0, 1) := by decide +kernel
theorem dX9_hand_100 : decode cX9_hand 100 = .ok (.getfield 28, 3) := by decide +kernel
theorem dX9_hand_103 : decode cX9_hand 103 = .ok (.iconst 1, 1) := by decide +kernel
theorem dX9_hand_104 : decode cX9_hand 104 = .ok (.iadd, 1) := by decide +kernel
theorem dX9_hand_105 : decode cX9_hand 105 = .ok (.bipush 40, 2) := by decide +kernel
theorem dX9_hand_107 : decode cX9_hand 107 = .ok (.irem, 1) := by decide +kernel
theorem dX9_hand_108 : decode cX9_hand 108 = .ok (.putfield 28, 3) := by decide +kernel
theorem dX9_hand_111 : decode cX9_hand 111 = .ok (.return_, 1) := by decide +kernel
theorem dX0_passDay_0 : decode cX0_passDay 0 = .ok (.aload_n 1, 1) := by decide +kernel
theorem dX0_passDay_1 : decode cX0_passDay 1 = .ok (.iconst 1, 1) := by decide +kernel
theorem dX0_passDay_2 : decode cX0_passDay 2 = .ok (.aload_n 0, 1) := by decide +kernel
theorem dX0_passDay_3 : decode cX0_passDay 3 = .ok (.getfield 17, 3) := by decide +kernel
theorem dX0_passDay_6 : decode cX0_passDay 6 = .ok (.getfield 57, 3) := by decide +kernel
theorem dX0_passDay_9 : decode cX0_passDay 9 = .ok (.invokevirtual 60, 3) := by decide +kernel
theorem dX0_passDay_12 : decode cX0_passDay 12 = .ok (.iconst 0, 1) := by decide +kernel
theorem dX0_passDay_13 : decode cX0_passDay 13 = .ok (.istore_n 2, 1) := by decide +kernel
theorem dX0_passDay_14 : decode cX0_passDay 14 = .ok (.iconst 0, 1) := by decide +kernel
theorem dX0_passDay_15 : decode cX0_passDay 15 = .ok (.istore_n 3, 1) := by decide +kernel
theorem dX0_passDay_16 : decode cX0_passDay 16 = .ok (.iload_n 3, 1) := by decide +kernel
theorem dX0_passDay_17 : decode cX0_passDay 17 = .ok (.aload_n 0, 1) := by decide +kernel
theorem dX0_passDay_18 : decode cX0_passDay 18 = .ok (.getfield 17, 3) := by decide +kernel
theorem dX0_passDay_21 : decode cX0_passDay 21 = .ok (.getfield 64, 3) := by decide +kernel
theorem dX0_passDay_24 : decode cX0_passDay 24 = .ok (.if_icmp .ge 43, 3) := by decide +kernel
theorem dX0_passDay_27 : decode cX0_passDay 27 = .ok (.aload_n 0, 1) := by decide +kernel
theorem dX0_passDay_28 : decode cX0_passDay 28 = .ok (.aload_n 1, 1) := by decide +kernel
theorem dX0_passDay_29 : decode cX0_passDay 29 = .ok (.iload_n 3, 1) := by decide +kernel
theorem dX0_passDay_30 : decode cX0_passDay 30 = .ok (.invokevirtual 67, 3) := by decide +kernel
theorem dX0_passDay_33 : decode cX0_passDay 33 = .ok (.istore 4, 2) := by decide +kernel
theorem dX0_passDay_35 : decode cX0_passDay 35 = .ok (.iload 4, 2) := by decide +kernel
theorem dX0_passDay_37 : decode cX0_passDay 37 = .ok (.ifCond .ne 11, 3) := by decide +kernel
theorem dX0_passDay_40 : decode cX0_passDay 40 = .ok (.aload_n 1, 1) := by decide +kernel
theorem dX0_passDay_41 : decode cX0_passDay 41 = .ok (.iload_n 3, 1) := by decide +kernel
theorem dX0_passDay_42 : decode cX0_passDay 42 = .ok (.invokevirtual 71, 3) := by decide +kernel
theorem dX0_passDay_45 : decode cX0_passDay 45 = .ok (.goto 16, 3) := by decide +kernel
theorem dX0_passDay_48 : decode cX0_passDay 48 = .ok (.aload_n 1, 1) := by decide +kernel
theorem dX0_passDay_49 : decode cX0_passDay 49 = .ok (.iload_n 3, 1) := by decide +kernel
theorem dX0_passDay_50 : decode cX0_passDay 50 = .ok (.iload 4, 2) := by decide +kernel
theorem dX0_passDay_52 : decode cX0_passDay 52 = .ok (.invokevirtual 75, 3) := by decide +kernel
theorem dX0_passDay_55 : decode cX0_passDay 55 = .ok (.iload_n 2, 1) := by decide +kernel
theorem dX0_passDay_56 : decode cX0_passDay 56 = .ok (.iconst 1, 1) := by decide +kernel
theorem dX0_passDay_57 : decode cX0_passDay 57 = .ok (.iload_n 3, 1) := by decide +kernel
theorem dX0_passDay_58 : decode cX0_passDay 58 = .ok (.ishl, 1) := by decide +kernel
theorem dX0_passDay_59 : decode cX0_passDay 59 = .ok (.ior, 1) := by decide +kernel
theorem dX0_passDay_60 : decode cX0_passDay 60 = .ok (.istore_n 2, 1) := by decide +kernel
theorem dX0_passDay_61 : decode cX0_passDay 61 = .ok (.iinc 3 1, 3) := by decide +kernel
theorem dX0_passDay_64 : decode cX0_passDay 64 = .ok (.goto (-48), 3) := by decide +kernel
theorem dX0_passDay_67 : decode cX0_passDay 67 = .ok (.aload_n 1, 1) := by decide +kernel
theorem dX0_passDay_68 : decode cX0_passDay 68 = .ok (.sipush 999, 3) := by decide +kernel
theorem dX0_passDay_71 : decode cX0_passDay 71 = .ok (.aload_n 1, 1) := by decide +kernel
theorem dX0_passDay_72 : decode cX0_passDay 72 = .ok (.getfield 33, 3) := by decide +kernel
theorem dX0_passDay_75 : decode cX0_passDay 75 = .ok (.iconst 1, 1) := by decide +kernel
theorem dX0_passDay_76 : decode cX0_passDay 76 = .ok (.iadd, 1) := by decide +kernel
theorem dX0_passDay_77 : decode cX0_passDay 77 = .ok (.invokestatic 78, 3) := by decide +kernel
theorem dX0_passDay_80 : decode cX0_passDay 80 = .ok (.putfield 33, 3) := by decide +kernel
theorem dX0_passDay_83 : decode cX0_passDay 83 = .ok (.iload_n 2, 1) := by decide +kernel
theorem dX0_passDay_84 : decode cX0_passDay 84 = .ok (.ireturn, 1) := by decide +kernel
theorem dX0_servesAll_0 : decode cX0_servesAll 0 = .ok (.aload_n 1, 1) := by decide +kernel
theorem dX0_servesAll_1 : decode cX0_servesAll 1 = .ok (.iconst 1, 1) := by decide +kernel
theorem dX0_servesAll_2 : decode cX0_servesAll 2 = .ok (.aload_n 0, 1) := by decide +kernel
theorem dX0_servesAll_3 : decode cX0_servesAll 3 = .ok (.getfield 17, 3) := by decide +kernel
theorem dX0_servesAll_6 : decode cX0_servesAll 6 = .ok (.getfield 57, 3) := by decide +kernel
theorem dX0_servesAll_9 : decode cX0_servesAll 9 = .ok (.invokevirtual 60, 3) := by decide +kernel
theorem dX0_servesAll_12 : decode cX0_servesAll 12 = .ok (.iconst 0, 1) := by decide +kernel
theorem dX0_servesAll_13 : decode cX0_servesAll 13 = .ok (.istore_n 2, 1) := by decide +kernel
theorem dX0_servesAll_14 : decode cX0_servesAll 14 = .ok (.iload_n 2, 1) := by decide +kernel
theorem dX0_servesAll_15 : decode cX0_servesAll 15 = .ok (.aload_n 0, 1) := by decide +kernel
theorem dX0_servesAll_16 : decode cX0_servesAll 16 = .ok (.getfield 17, 3) := by decide +kernel
theorem dX0_servesAll_19 : decode cX0_servesAll 19 = .ok (.getfield 64, 3) := by decide +kernel
theorem dX0_servesAll_22 : decode cX0_servesAll 22 = .ok (.if_icmp .ge 28, 3) := by decide +kernel
theorem dX0_servesAll_25 : decode cX0_servesAll 25 = .ok (.aload_n 0, 1) := by decide +kernel
theorem dX0_servesAll_26 : decode cX0_servesAll 26 = .ok (.aload_n 1, 1) := by decide +kernel
theorem dX0_servesAll_27 : decode cX0_servesAll 27 = .ok (.iload_n 2, 1) := by decide +kernel
theorem dX0_servesAll_28 : decode cX0_servesAll 28 = .ok (.invokevirtual 67, 3) := by decide +kernel
theorem dX0_servesAll_31 : decode cX0_servesAll 31 = .ok (.istore_n 3, 1) := by decide +kernel
theorem dX0_servesAll_32 : decode cX0_servesAll 32 = .ok (.iload_n 3, 1) := by decide +kernel
theorem dX0_servesAll_33 : decode cX0_servesAll 33 = .ok (.ifCond .ne 5, 3) := by decide +kernel
theorem dX0_servesAll_36 : decode cX0_servesAll 36 = .ok (.iconst 0, 1) := by decide +kernel
theorem dX0_servesAll_37 : decode cX0_servesAll 37 = .ok (.ireturn, 1) := by decide +kernel
theorem dX0_servesAll_38 : decode cX0_servesAll 38 = .ok (.aload_n 1, 1) := by decide +kernel
theorem dX0_servesAll_39 : decode cX0_servesAll 39 = .ok (.iload_n 2, 1) := by decide +kernel
theorem dX0_servesAll_40 : decode cX0_servesAll 40 = .ok (.iload_n 3, 1) := by decide +kernel
theorem dX0_servesAll_41 : decode cX0_servesAll 41 = .ok (.invokevirtual 75, 3) := by decide +kernel
theorem dX0_servesAll_44 : decode cX0_servesAll 44 = .ok (.iinc 2 1, 3) := by decide +kernel
theorem dX0_servesAll_47 : decode cX0_servesAll 47 = .ok (.goto (-33), 3) := by decide +kernel
theorem dX0_servesAll_50 : decode cX0_servesAll 50 = .ok (.iconst 1, 1) := by decide +kernel
theorem dX0_servesAll_51 : decode cX0_servesAll 51 = .ok (.ireturn, 1) := by decide +kernel
theorem dX1_commonDivisor_0 : decode cX1_commonDivisor 0 = .ok (.lload_n 0, 1) := by decide +kernel
theorem dX1_commonDivisor_1 : decode cX1_commonDivisor 1 = .ok (.lstore 4, 2) := by decide +kernel
theorem dX1_commonDivisor_3 : decode cX1_commonDivisor 3 = .ok (.lload_n 2, 1) := by decide +kernel
theorem dX1_commonDivisor_4 : decode cX1_commonDivisor 4 = .ok (.lstore 6, 2) := by decide +kernel
theorem dX1_commonDivisor_6 : decode cX1_commonDivisor 6 = .ok (.iconst 0, 1) := by decide +kernel
theorem dX1_commonDivisor_7 : decode cX1_commonDivisor 7 = .ok (.istore 8, 2) := by decide +kernel
theorem dX1_commonDivisor_9 : decode cX1_commonDivisor 9 = .ok (.iload 8, 2) := by decide +kernel
theorem dX1_commonDivisor_11 : decode cX1_commonDivisor 11 = .ok (.sipush 200, 3) := by decide +kernel
theorem dX1_commonDivisor_14 : decode cX1_commonDivisor 14 = .ok (.if_icmp .ge 31, 3) := by decide +kernel
theorem dX1_commonDivisor_17 : decode cX1_commonDivisor 17 = .ok (.lload 6, 2) := by decide +kernel
theorem dX1_commonDivisor_19 : decode cX1_commonDivisor 19 = .ok (.lconst 0, 1) := by decide +kernel
theorem dX1_commonDivisor_20 : decode cX1_commonDivisor 20 = .ok (.lcmp, 1) := by decide +kernel
theorem dX1_commonDivisor_21 : decode cX1_commonDivisor 21 = .ok (.ifCond .le 24, 3) := by decide +kernel
theorem dX1_commonDivisor_24 : decode cX1_commonDivisor 24 = .ok (.lload 4, 2) := by decide +kernel
theorem dX1_commonDivisor_26 : decode cX1_commonDivisor 26 = .ok (.lload 6, 2) := by decide +kernel
theorem dX1_commonDivisor_28 : decode cX1_commonDivisor 28 = .ok (.lrem, 1) := by decide +kernel
theorem dX1_commonDivisor_29 : decode cX1_commonDivisor 29 = .ok (.lstore 9, 2) := by decide +kernel
theorem dX1_commonDivisor_31 : decode cX1_commonDivisor 31 = .ok (.lload 6, 2) := by decide +kernel
theorem dX1_commonDivisor_33 : decode cX1_commonDivisor 33 = .ok (.lstore 4, 2) := by decide +kernel
theorem dX1_commonDivisor_35 : decode cX1_commonDivisor 35 = .ok (.lload 9, 2) := by decide +kernel
theorem dX1_commonDivisor_37 : decode cX1_commonDivisor 37 = .ok (.lstore 6, 2) := by decide +kernel
theorem dX1_commonDivisor_39 : decode cX1_commonDivisor 39 = .ok (.iinc 8 1, 3) := by decide +kernel
theorem dX1_commonDivisor_42 : decode cX1_commonDivisor 42 = .ok (.goto (-33), 3) := by decide +kernel
theorem dX1_commonDivisor_45 : decode cX1_commonDivisor 45 = .ok (.lload 4, 2) := by decide +kernel
theorem dX1_commonDivisor_47 : decode cX1_commonDivisor 47 = .ok (.lreturn, 1) := by decide +kernel
theorem dX1_keepSet_0 : decode cX1_keepSet 0 = .ok (.aload_n 0, 1) := by decide +kernel
theorem dX1_keepSet_1 : decode cX1_keepSet 1 = .ok (.getfield 19, 3) := by decide +kernel
theorem dX1_keepSet_4 : decode cX1_keepSet 4 = .ok (.aload_n 0, 1) := by decide +kernel
theorem dX1_keepSet_5 : decode cX1_keepSet 5 = .ok (.getfield 15, 3) := by decide +kernel
theorem dX1_keepSet_8 : decode cX1_keepSet 8 = .ok (.arraylength, 1) := by decide +kernel
theorem dX1_keepSet_9 : decode cX1_keepSet 9 = .ok (.if_icmp .ge 23, 3) := by decide +kernel
theorem dX1_keepSet_12 : decode cX1_keepSet 12 = .ok (.aload_n 0, 1) := by decide +kernel
theorem dX1_keepSet_13 : decode cX1_keepSet 13 = .ok (.getfield 15, 3) := by decide +kernel
theorem dX1_keepSet_16 : decode cX1_keepSet 16 = .ok (.aload_n 0, 1) := by decide +kernel
theorem dX1_keepSet_17 : decode cX1_keepSet 17 = .ok (.getfield 19, 3) := by decide +kernel
theorem dX1_keepSet_20 : decode cX1_keepSet 20 = .ok (.iload_n 1, 1) := by decide +kernel
theorem dX1_keepSet_21 : decode cX1_keepSet 21 = .ok (.iastore, 1) := by decide +kernel
theorem dX1_keepSet_22 : decode cX1_keepSet 22 = .ok (.aload_n 0, 1) := by decide +kernel
theorem dX1_keepSet_23 : decode cX1_keepSet 23 = .ok (.dup, 1) := by decide +kernel
theorem dX1_keepSet_24 : decode cX1_keepSet 24 = .ok (.getfield 19, 3) := by decide +kernel
theorem dX1_keepSet_27 : decode cX1_keepSet 27 = .ok (.iconst 1, 1) := by decide +kernel
theorem dX1_keepSet_28 : decode cX1_keepSet 28 = .ok (.iadd, 1) := by decide +kernel
theorem dX1_keepSet_29 : decode cX1_keepSet 29 = .ok (.putfield 19, 3) := by decide +kernel
theorem dX1_keepSet_32 : decode cX1_keepSet 32 = .ok (.return_, 1) := by decide +kernel
theorem dX1_search_0 : decode cX1_search 0 = .ok (.iload_n 3, 1) := by decide +kernel
theorem dX1_search_1 : decode cX1_search 1 = .ok (.istore 6, 2) := by decide +kernel
theorem dX1_search_3 : decode cX1_search 3 = .ok (.iload 6, 2) := by decide +kernel
theorem dX1_search_5 : decode cX1_search 5 = .ok (.aload_n 0, 1) := by decide +kernel
theorem dX1_search_6 : decode cX1_search 6 = .ok (.getfield 33, 3) := by decide +kernel
theorem dX1_search_9 : decode cX1_search 9 = .ok (.getfield 58, 3) := by decide +kernel
theorem dX1_search_12 : decode cX1_search 12 = .ok (.if_icmp .gt 98, 3) := by decide +kernel
theorem dX1_search_15 : decode cX1_search 15 = .ok (.aload_n 0, 1) := by decide +kernel
theorem dX1_search_16 : decode cX1_search 16 = .ok (.getfield 9, 3) := by decide +kernel
theorem dX1_search_19 : decode cX1_search 19 = .ok (.iload 6, 2) := by decide +kernel
theorem dX1_search_21 : decode cX1_search 21 = .ok (.laload, 1) := by decide +kernel
theorem dX1_search_22 : decode cX1_search 22 = .ok (.iload 4, 2) := by decide +kernel
theorem dX1_search_24 : decode cX1_search 24 = .ok (.i2l, 1) := by decide +kernel
theorem dX1_search_25 : decode cX1_search 25 = .ok (.lmul, 1) := by decide +kernel
theorem dX1_search_26 : decode cX1_search 26 = .ok (.lload_n 1, 1) := by decide +kernel
theorem dX1_search_27 : decode cX1_search 27 = .ok (.lcmp, 1) := by decide +kernel
theorem dX1_search_28 : decode cX1_search 28 = .ok (.ifCond .lt 82, 3) := by decide +kernel
theorem dX1_search_31 : decode cX1_search 31 = .ok (.iload 5, 2) := by decide +kernel
theorem dX1_search_33 : decode cX1_search 33 = .ok (.iconst 1, 1) := by decide +kernel
theorem dX1_search_34 : decode cX1_search 34 = .ok (.iload 6, 2) := by decide +kernel
theorem dX1_search_36 : decode cX1_search 36 = .ok (.iconst 1, 1) := by decide +kernel
theorem dX1_search_37 : decode cX1_search 37 = .ok (.isub, 1) := by decide +kernel
theorem dX1_search_38 : decode cX1_search 38 = .ok (.ishl, 1) := by decide +kernel
theorem dX1_search_39 : decode cX1_search 39 = .ok (.ior, 1) := by decide +kernel
theorem dX1_search_40 : decode cX1_search 40 = .ok (.istore 7, 2) := by decide +kernel
theorem dX1_search_42 : decode cX1_search 42 = .ok (.aload_n 0, 1) := by decide +kernel
theorem dX1_search_43 : decode cX1_search 43 = .ok (.getfield 9, 3) := by decide +kernel
theorem dX1_search_46 : decode cX1_search 46 = .ok (.iload 6, 2) := by decide +kernel
theorem dX1_search_48 : decode cX1_search 48 = .ok (.laload, 1) := by decide +kernel
theorem dX1_search_49 : decode cX1_search 49 = .ok (.lload_n 1, 1) := by decide +kernel
theorem dX1_search_50 : decode cX1_search 50 = .ok (.lcmp, 1) := by decide +kernel
theorem dX1_search_51 : decode cX1_search 51 = .ok (.ifCond .ne 12, 3) := by decide +kernel
theorem dX1_search_54 : decode cX1_search 54 = .ok (.aload_n 0, 1) := by decide +kernel
theorem dX1_search_55 : decode cX1_search 55 = .ok (.iload 7, 2) := by decide +kernel
theorem dX1_search_57 : decode cX1_search 57 = .ok (.invokevirtual 61, 3) := by decide +kernel
theorem dX1_search_60 : decode cX1_search 60 = .ok (.goto 44, 3) := by decide +kernel
theorem dX1_search_63 : decode cX1_search 63 = .ok (.aload_n 0, 1) := by decide +kernel
theorem dX1_search_64 : decode cX1_search 64 = .ok (.getfield 9, 3) := by decide +kernel
theorem dX1_search_67 : decode cX1_search 67 = .ok (.iload 6, 2) := by decide +kernel
theorem dX1_search_69 : decode cX1_search 69 = .ok (.laload, 1) := by decide +kernel
theorem dX1_search_70 : decode cX1_search 70 = .ok (.lload_n 1, 1) := by decide +kernel
theorem dX1_search_71 : decode cX1_search 71 = .ok (.lcmp, 1) := by decide +kernel
theorem dX1_search_72 : decode cX1_search 72 = .ok (.ifCond .ge 32, 3) := by decide +kernel
theorem dX1_search_75 : decode cX1_search 75 = .ok (.iload 4, 2) := by decide +kernel
theorem dX1_search_77 : decode cX1_search 77 = .ok (.iconst 1, 1) := by decide +kernel
theorem dX1_search_78 : decode cX1_search 78 = .ok (.if_icmp .le 26, 3) := by decide +kernel
theorem dX1_search_81 : decode cX1_search 81 = .ok (.aload_n 0, 1) := by decide +kernel
theorem dX1_search_82 : decode cX1_search 82 = .ok (.lload_n 1, 1) := by decide +kernel
theorem dX1_search_83 : decode cX1_search 83 = .ok (.aload_n 0, 1) := by decide +kernel
theorem dX1_search_84 : decode cX1_search 84 = .ok (.getfield 9, 3) := by decide +kernel
theorem dX1_search_87 : decode cX1_search 87 = .ok (.iload 6, 2) := by decide +kernel
theorem dX1_search_89 : decode cX1_search 89 = .ok (.laload, 1) := by decide +kernel
theorem dX1_search_90 : decode cX1_search 90 = .ok (.lsub, 1) := by decide +kernel
theorem dX1_search_91 : decode cX1_search 91 = .ok (.iload 6, 2) := by decide +kernel
theorem dX1_search_93 : decode cX1_search 93 = .ok (.iconst 1, 1) := by decide +kernel
theorem dX1_search_94 : decode cX1_search 94 = .ok (.iadd, 1) := by decide +kernel
theorem dX1_search_95 : decode cX1_search 95 = .ok (.iload 4, 2) := by decide +kernel
theorem dX1_search_97 : decode cX1_search 97 = .ok (.iconst 1, 1) := by decide +kernel
theorem dX1_search_98 : decode cX1_search 98 = .ok (.isub, 1) := by decide +kernel
theorem dX1_search_99 : decode cX1_search 99 = .ok (.iload 7, 2) := by decide +kernel
theorem dX1_search_101 : decode cX1_search 101 = .ok (.invokevirtual 54, 3) := by decide +kernel
theorem dX1_search_104 : decode cX1_search 104 = .ok (.iinc 6 1, 3) := by decide +kernel
theorem dX1_search_107 : decode cX1_search 107 = .ok (.goto (-104), 3) := by decide +kernel
theorem dX1_search_110 : decode cX1_search 110 = .ok (.return_, 1) := by decide +kernel
theorem dX1_find_0 : decode cX1_find 0 = .ok (.lload_n 1, 1) := by decide +kernel
theorem dX1_find_1 : decode cX1_find 1 = .ok (.aload_n 0, 1) := by decide +kernel
theorem dX1_find_2 : decode cX1_find 2 = .ok (.getfield 29, 3) := by decide +kernel
theorem dX1_find_5 : decode cX1_find 5 = .ok (.lcmp, 1) := by decide +kernel
theorem dX1_find_6 : decode cX1_find 6 = .ok (.ifCond .eq 33, 3) := by decide +kernel
theorem dX1_find_9 : decode cX1_find 9 = .ok (.aload_n 0, 1) := by decide +kernel
theorem dX1_find_10 : decode cX1_find 10 = .ok (.iconst 0, 1) := by decide +kernel
theorem dX1_find_11 : decode cX1_find 11 = .ok (.putfield 19, 3) := by decide +kernel
theorem dX1_find_14 : decode cX1_find 14 = .ok (.aload_n 0, 1) := by decide +kernel
theorem dX1_find_15 : decode cX1_find 15 = .ok (.lload_n 1, 1) := by decide +kernel
theorem dX1_find_16 : decode cX1_find 16 = .ok (.putfield 29, 3) := by decide +kernel
theorem dX1_find_19 : decode cX1_find 19 = .ok (.lload_n 1, 1) := by decide +kernel
theorem dX1_find_20 : decode cX1_find 20 = .ok (.lconst 0, 1) := by decide +kernel
theorem dX1_find_21 : decode cX1_find 21 = .ok (.lcmp, 1) := by decide +kernel
theorem dX1_find_22 : decode cX1_find 22 = .ok (.ifCond .le 17, 3) := by decide +kernel
theorem dX1_find_25 : decode cX1_find 25 = .ok (.aload_n 0, 1) := by decide +kernel
theorem dX1_find_26 : decode cX1_find 26 = .ok (.lload_n 1, 1) := by decide +kernel
theorem dX1_find_27 : decode cX1_find 27 = .ok (.iconst 1, 1) := by decide +kernel
theorem dX1_find_28 : decode cX1_find 28 = .ok (.aload_n 0, 1) := by decide +kernel
theorem dX1_find_29 : decode cX1_find 29 = .ok (.getfield 33, 3) := by decide +kernel
theorem dX1_find_32 : decode cX1_find 32 = .ok (.getfield 45, 3) := by decide +kernel
theorem dX1_find_35 : decode cX1_find 35 = .ok (.iconst 0, 1) := by decide +kernel
theorem dX1_find_36 : decode cX1_find 36 = .ok (.invokevirtual 54, 3) := by decide +kernel
theorem dX1_find_39 : decode cX1_find 39 = .ok (.aload_n 0, 1) := by decide +kernel
theorem dX1_find_40 : decode cX1_find 40 = .ok (.getfield 19, 3) := by decide +kernel
theorem dX1_find_43 : decode cX1_find 43 = .ok (.ireturn, 1) := by decide +kernel
theorem dX1_forget_0 : decode cX1_forget 0 = .ok (.aload_n 0, 1) := by decide +kernel
theorem dX1_forget_1 : decode cX1_forget 1 = .ok (.lconst 0, 1) := by decide +kernel
theorem dX1_forget_2 : decode cX1_forget 2 = .ok (.putfield 29, 3) := by decide +kernel
theorem dX1_forget_5 : decode cX1_forget 5 = .ok (.aload_n 0, 1) := by decide +kernel
theorem dX1_forget_6 : decode cX1_forget 6 = .ok (.iconst 0, 1) := by decide +kernel
theorem dX1_forget_7 : decode cX1_forget 7 = .ok (.putfield 19, 3) := by decide +kernel
theorem dX1_forget_10 : decode cX1_forget 10 = .ok (.return_, 1) := by decide +kernel
theorem dX1_greedySet_0 : decode cX1_greedySet 0 = .ok (.lload_n 1, 1) := by decide +kernel
theorem dX1_greedySet_1 : decode cX1_greedySet 1 = .ok (.lstore_n 3, 1) := by decide +kernel
theorem dX1_greedySet_2 : decode cX1_greedySet 2 = .ok (.iconst 0, 1) := by decide +kernel
theorem dX1_greedySet_3 : decode cX1_greedySet 3 = .ok (.istore 5, 2) := by decide +kernel
theorem dX1_greedySet_5 : decode cX1_greedySet 5 = .ok (.aload_n 0, 1) := by decide +kernel
theorem dX1_greedySet_6 : decode cX1_greedySet 6 = .ok (.getfield 33, 3) := by decide +kernel
theorem dX1_greedySet_9 : decode cX1_greedySet 9 = .ok (.getfield 45, 3) := by decide +kernel
theorem dX1_greedySet_12 : decode cX1_greedySet 12 = .ok (.istore 6, 2) := by decide +kernel
theorem dX1_greedySet_14 : decode cX1_greedySet 14 = .ok (.iconst 1, 1) := by decide +kernel
theorem dX1_greedySet_15 : decode cX1_greedySet 15 = .ok (.istore 7, 2) := by decide +kernel
theorem dX1_greedySet_17 : decode cX1_greedySet 17 = .ok (.iload 7, 2) := by decide +kernel
theorem dX1_greedySet_19 : decode cX1_greedySet 19 = .ok (.aload_n 0, 1) := by decide +kernel
theorem dX1_greedySet_20 : decode cX1_greedySet 20 = .ok (.getfield 33, 3) := by decide +kernel
theorem dX1_greedySet_23 : decode cX1_greedySet 23 = .ok (.getfield 58, 3) := by decide +kernel
theorem dX1_greedySet_26 : decode cX1_greedySet 26 = .ok (.if_icmp .gt 56, 3) := by decide +kernel
theorem dX1_greedySet_29 : decode cX1_greedySet 29 = .ok (.lload_n 3, 1) := by decide +kernel
theorem dX1_greedySet_30 : decode cX1_greedySet 30 = .ok (.lconst 0, 1) := by decide +kernel
theorem dX1_greedySet_31 : decode cX1_greedySet 31 = .ok (.lcmp, 1) := by decide +kernel
theorem dX1_greedySet_32 : decode cX1_greedySet 32 = .ok (.ifCond .le 50, 3) := by decide +kernel
theorem dX1_greedySet_35 : decode cX1_greedySet 35 = .ok (.iload 6, 2) := by decide +kernel
theorem dX1_greedySet_37 : decode cX1_greedySet 37 = .ok (.ifCond .le 45, 3) := by decide +kernel
theorem dX1_greedySet_40 : decode cX1_greedySet 40 = .ok (.aload_n 0, 1) := by decide +kernel
theorem dX1_greedySet_41 : decode cX1_greedySet 41 = .ok (.getfield 9, 3) := by decide +kernel
theorem dX1_greedySet_44 : decode cX1_greedySet 44 = .ok (.iload 7, 2) := by decide +kernel
theorem dX1_greedySet_46 : decode cX1_greedySet 46 = .ok (.laload, 1) := by decide +kernel
theorem dX1_greedySet_47 : decode cX1_greedySet 47 = .ok (.lload_n 3, 1) := by decide +kernel
theorem dX1_greedySet_48 : decode cX1_greedySet 48 = .ok (.lcmp, 1) := by decide +kernel
theorem dX1_greedySet_49 : decode cX1_greedySet 49 = .ok (.ifCond .gt 27, 3) := by decide +kernel
theorem dX1_greedySet_52 : decode cX1_greedySet 52 = .ok (.lload_n 3, 1) := by decide +kernel
theorem dX1_greedySet_53 : decode cX1_greedySet 53 = .ok (.aload_n 0, 1) := by decide +kernel
theorem dX1_greedySet_54 : decode cX1_greedySet 54 = .ok (.getfield 9, 3) := by decide +kernel
theorem dX1_greedySet_57 : decode cX1_greedySet 57 = .ok (.iload 7, 2) := by decide +kernel
theorem dX1_greedySet_59 : decode cX1_greedySet 59 = .ok (.laload, 1) := by decide +kernel
theorem dX1_greedySet_60 : decode cX1_greedySet 60 = .ok (.lsub, 1) := by decide +kernel
theorem dX1_greedySet_61 : decode cX1_greedySet 61 = .ok (.lstore_n 3, 1) := by decide +kernel
theorem dX1_greedySet_62 : decode cX1_greedySet 62 = .ok (.iload 5, 2) := by decide +kernel
theorem dX1_greedySet_64 : decode cX1_greedySet 64 = .ok (.iconst 1, 1) := by decide +kernel
theorem dX1_greedySet_65 : decode cX1_greedySet 65 = .ok (.iload 7, 2) := by decide +kernel
theorem dX1_greedySet_67 : decode cX1_greedySet 67 = .ok (.iconst 1, 1) := by decide +kernel
theorem dX1_greedySet_68 : decode cX1_greedySet 68 = .ok (.isub, 1) := by decide +kernel
theorem dX1_greedySet_69 : decode cX1_greedySet 69 = .ok (.ishl, 1) := by decide +kernel
theorem dX1_greedySet_70 : decode cX1_greedySet 70 = .ok (.ior, 1) := by decide +kernel
theorem dX1_greedySet_71 : decode cX1_greedySet 71 = .ok (.istore 5, 2) := by decide +kernel
theorem dX1_greedySet_73 : decode cX1_greedySet 73 = .ok (.iinc 6 (-1), 3) := by decide +kernel
theorem dX1_greedySet_76 : decode cX1_greedySet 76 = .ok (.iinc 7 1, 3) := by decide +kernel
theorem dX1_greedySet_79 : decode cX1_greedySet 79 = .ok (.goto (-62), 3) := by decide +kernel
theorem dX1_greedySet_82 : decode cX1_greedySet 82 = .ok (.lload_n 3, 1) := by decide +kernel
theorem dX1_greedySet_83 : decode cX1_greedySet 83 = .ok (.lconst 0, 1) := by decide +kernel
theorem dX1_greedySet_84 : decode cX1_greedySet 84 = .ok (.lcmp, 1) := by decide +kernel
theorem dX1_greedySet_85 : decode cX1_greedySet 85 = .ok (.ifCond .ne 8, 3) := by decide +kernel
theorem dX1_greedySet_88 : decode cX1_greedySet 88 = .ok (.iload 5, 2) := by decide +kernel
theorem dX1_greedySet_90 : decode cX1_greedySet 90 = .ok (.goto 4, 3) := by decide +kernel
theorem dX1_greedySet_93 : decode cX1_greedySet 93 = .ok (.iconst 0, 1) := by decide +kernel
theorem dX1_greedySet_94 : decode cX1_greedySet 94 = .ok (.ireturn, 1) := by decide +kernel
theorem dJ6_bitCount_0f7a4_0 : decode cJ6_bitCount_0f7a4 0 = .ok (.iload_n 0, 1) := by decide +kernel
theorem dJ6_bitCount_0f7a4_1 : decode cJ6_bitCount_0f7a4 1 = .ok (.iload_n 0, 1) := by decide +kernel
theorem dJ6_bitCount_0f7a4_2 : decode cJ6_bitCount_0f7a4 2 = .ok (.iconst 1, 1) := by decide +kernel
theorem dJ6_bitCount_0f7a4_3 : decode cJ6_bitCount_0f7a4 3 = .ok (.iushr, 1) := by decide +kernel
theorem dJ6_bitCount_0f7a4_4 : decode cJ6_bitCount_0f7a4 4 = .ok (.ldc_w 265, 3) := by decide +kernel
theorem dJ6_bitCount_0f7a4_7 : decode cJ6_bitCount_0f7a4 7 = .ok (.iand, 1) := by decide +kernel
theorem dJ6_bitCount_0f7a4_8 : decode cJ6_bitCount_0f7a4 8 = .ok (.isub, 1) := by decide +kernel
theorem dJ6_bitCount_0f7a4_9 : decode cJ6_bitCount_0f7a4 9 = .ok (.istore_n 0, 1) := by decide +kernel
theorem dJ6_bitCount_0f7a4_10 : decode cJ6_bitCount_0f7a4 10 = .ok (.iload_n 0, 1) := by decide +kernel
theorem dJ6_bitCount_0f7a4_11 : decode cJ6_bitCount_0f7a4 11 = .ok (.ldc_w 266, 3) := by decide +kernel
theorem dJ6_bitCount_0f7a4_14 : decode cJ6_bitCount_0f7a4 14 = .ok (.iand, 1) := by decide +kernel
theorem dJ6_bitCount_0f7a4_15 : decode cJ6_bitCount_0f7a4 15 = .ok (.iload_n 0, 1) := by decide +kernel
theorem dJ6_bitCount_0f7a4_16 : decode cJ6_bitCount_0f7a4 16 = .ok (.iconst 2, 1) := by decide +kernel
theorem dJ6_bitCount_0f7a4_17 : decode cJ6_bitCount_0f7a4 17 = .ok (.iushr, 1) := by decide +kernel
theorem dJ6_bitCount_0f7a4_18 : decode cJ6_bitCount_0f7a4 18 = .ok (.ldc_w 266, 3) := by decide +kernel
theorem dJ6_bitCount_0f7a4_21 : decode cJ6_bitCount_0f7a4 21 = .ok (.iand, 1) := by decide +kernel
theorem dJ6_bitCount_0f7a4_22 : decode cJ6_bitCount_0f7a4 22 = .ok (.iadd, 1) := by decide +kernel
theorem dJ6_bitCount_0f7a4_23 : decode cJ6_bitCount_0f7a4 23 = .ok (.istore_n 0, 1) := by decide +kernel
theorem dJ6_bitCount_0f7a4_24 : decode cJ6_bitCount_0f7a4 24 = .ok (.iload_n 0, 1) := by decide +kernel
theorem dJ6_bitCount_0f7a4_25 : decode cJ6_bitCount_0f7a4 25 = .ok (.iload_n 0, 1) := by decide +kernel
theorem dJ6_bitCount_0f7a4_26 : decode cJ6_bitCount_0f7a4 26 = .ok (.iconst 4, 1) := by decide +kernel
theorem dJ6_bitCount_0f7a4_27 : decode cJ6_bitCount_0f7a4 27 = .ok (.iushr, 1) := by decide +kernel
theorem dJ6_bitCount_0f7a4_28 : decode cJ6_bitCount_0f7a4 28 = .ok (.iadd, 1) := by decide +kernel
theorem dJ6_bitCount_0f7a4_29 : decode cJ6_bitCount_0f7a4 29 = .ok (.ldc_w 267, 3) := by decide +kernel
theorem dJ6_bitCount_0f7a4_32 : decode cJ6_bitCount_0f7a4 32 = .ok (.iand, 1) := by decide +kernel
theorem dJ6_bitCount_0f7a4_33 : decode cJ6_bitCount_0f7a4 33 = .ok (.istore_n 0, 1) := by decide +kernel
theorem dJ6_bitCount_0f7a4_34 : decode cJ6_bitCount_0f7a4 34 = .ok (.iload_n 0, 1) := by decide +kernel
theorem dJ6_bitCount_0f7a4_35 : decode cJ6_bitCount_0f7a4 35 = .ok (.iload_n 0, 1) := by decide +kernel
theorem dJ6_bitCount_0f7a4_36 : decode cJ6_bitCount_0f7a4 36 = .ok (.bipush 8, 2) := by decide +kernel
theorem dJ6_bitCount_0f7a4_38 : decode cJ6_bitCount_0f7a4 38 = .ok (.iushr, 1) := by decide +kernel
theorem dJ6_bitCount_0f7a4_39 : decode cJ6_bitCount_0f7a4 39 = .ok (.iadd, 1) := by decide +kernel
theorem dJ6_bitCount_0f7a4_40 : decode cJ6_bitCount_0f7a4 40 = .ok (.istore_n 0, 1) := by decide +kernel
theorem dJ6_bitCount_0f7a4_41 : decode cJ6_bitCount_0f7a4 41 = .ok (.iload_n 0, 1) := by decide +kernel
theorem dJ6_bitCount_0f7a4_42 : decode cJ6_bitCount_0f7a4 42 = .ok (.iload_n 0, 1) := by decide +kernel
theorem dJ6_bitCount_0f7a4_43 : decode cJ6_bitCount_0f7a4 43 = .ok (.bipush 16, 2) := by decide +kernel
theorem dJ6_bitCount_0f7a4_45 : decode cJ6_bitCount_0f7a4 45 = .ok (.iushr, 1) := by decide +kernel
theorem dJ6_bitCount_0f7a4_46 : decode cJ6_bitCount_0f7a4 46 = .ok (.iadd, 1) := by decide +kernel
theorem dJ6_bitCount_0f7a4_47 : decode cJ6_bitCount_0f7a4 47 = .ok (.istore_n 0, 1) := by decide +kernel
theorem dJ6_bitCount_0f7a4_48 : decode cJ6_bitCount_0f7a4 48 = .ok (.iload_n 0, 1) := by decide +kernel
theorem dJ6_bitCount_0f7a4_49 : decode cJ6_bitCount_0f7a4 49 = .ok (.bipush 63, 2) := by decide +kernel
theorem dJ6_bitCount_0f7a4_51 : decode cJ6_bitCount_0f7a4 51 = .ok (.iand, 1) := by decide +kernel
theorem dJ6_bitCount_0f7a4_52 : decode cJ6_bitCount_0f7a4 52 = .ok (.ireturn, 1) := by decide +kernel
theorem dX1_sumOf_0 : decode cX1_sumOf 0 = .ok (.lconst 0, 1) := by decide +kernel
theorem dX1_sumOf_1 : decode cX1_sumOf 1 = .ok (.lstore_n 2, 1) := by decide +kernel
theorem dX1_sumOf_2 : decode cX1_sumOf 2 = .ok (.iconst 1, 1) := by decide +kernel
theorem dX1_sumOf_3 : decode cX1_sumOf 3 = .ok (.istore 4, 2) := by decide +kernel
theorem dX1_sumOf_5 : decode cX1_sumOf 5 = .ok (.iload 4, 2) := by decide +kernel
theorem dX1_sumOf_7 : decode cX1_sumOf 7 = .ok (.bipush 24, 2) := by decide +kernel
theorem dX1_sumOf_9 : decode cX1_sumOf 9 = .ok (.if_icmp .gt 31, 3) := by decide +kernel
theorem dX1_sumOf_12 : decode cX1_sumOf 12 = .ok (.iload_n 1, 1) := by decide +kernel
theorem dX1_sumOf_13 : decode cX1_sumOf 13 = .ok (.iload 4, 2) := by decide +kernel
theorem dX1_sumOf_15 : decode cX1_sumOf 15 = .ok (.iconst 1, 1) := by decide +kernel
theorem dX1_sumOf_16 : decode cX1_sumOf 16 = .ok (.isub, 1) := by decide +kernel
theorem dX1_sumOf_17 : decode cX1_sumOf 17 = .ok (.ishr, 1) := by decide +kernel
theorem dX1_sumOf_18 : decode cX1_sumOf 18 = .ok (.iconst 1, 1) := by decide +kernel
theorem dX1_sumOf_19 : decode cX1_sumOf 19 = .ok (.iand, 1) := by decide +kernel
theorem dX1_sumOf_20 : decode cX1_sumOf 20 = .ok (.iconst 1, 1) := by decide +kernel
theorem dX1_sumOf_21 : decode cX1_sumOf 21 = .ok (.if_icmp .ne 13, 3) := by decide +kernel
theorem dX1_sumOf_24 : decode cX1_sumOf 24 = .ok (.lload_n 2, 1) := by decide +kernel
theorem dX1_sumOf_25 : decode cX1_sumOf 25 = .ok (.aload_n 0, 1) := by decide +kernel
theorem dX1_sumOf_26 : decode cX1_sumOf 26 = .ok (.getfield 9, 3) := by decide +kernel
theorem dX1_sumOf_29 : decode cX1_sumOf 29 = .ok (.iload 4, 2) := by decide +kernel
theorem dX1_sumOf_31 : decode cX1_sumOf 31 = .ok (.laload, 1) := by decide +kernel
theorem dX1_sumOf_32 : decode cX1_sumOf 32 = .ok (.ladd, 1) := by decide +kernel
theorem dX1_sumOf_33 : decode cX1_sumOf 33 = .ok (.lstore_n 2, 1) := by decide +kernel
theorem dX1_sumOf_34 : decode cX1_sumOf 34 = .ok (.iinc 4 1, 3) := by decide +kernel
theorem dX1_sumOf_37 : decode cX1_sumOf 37 = .ok (.goto (-32), 3) := by decide +kernel
theorem dX1_sumOf_40 : decode cX1_sumOf 40 = .ok (.lload_n 2, 1) := by decide +kernel
theorem dX1_sumOf_41 : decode cX1_sumOf 41 = .ok (.lreturn, 1) := by decide +kernel
theorem dX1_isWriting_0 : decode cX1_isWriting 0 = .ok (.iload_n 1, 1) := by decide +kernel
theorem dX1_isWriting_1 : decode cX1_isWriting 1 = .ok (.invokestatic 39, 3) := by decide +kernel
theorem dX1_isWriting_4 : decode cX1_isWriting 4 = .ok (.aload_n 0, 1) := by decide +kernel
theorem dX1_isWriting_5 : decode cX1_isWriting 5 = .ok (.getfield 33, 3) := by decide +kernel
theorem dX1_isWriting_8 : decode cX1_isWriting 8 = .ok (.getfield 45, 3) := by decide +kernel
theorem dX1_isWriting_11 : decode cX1_isWriting 11 = .ok (.if_icmp .gt 17, 3) := by decide +kernel
theorem dX1_isWriting_14 : decode cX1_isWriting 14 = .ok (.aload_n 0, 1) := by decide +kernel
theorem dX1_isWriting_15 : decode cX1_isWriting 15 = .ok (.iload_n 1, 1) := by decide +kernel
theorem dX1_isWriting_16 : decode cX1_isWriting 16 = .ok (.invokevirtual 50, 3) := by decide +kernel
theorem dX1_isWriting_19 : decode cX1_isWriting 19 = .ok (.lload_n 2, 1) := by decide +kernel
theorem dX1_isWriting_20 : decode cX1_isWriting 20 = .ok (.lcmp, 1) := by decide +kernel
theorem dX1_isWriting_21 : decode cX1_isWriting 21 = .ok (.ifCond .ne 7, 3) := by decide +kernel
theorem dX1_isWriting_24 : decode cX1_isWriting 24 = .ok (.iconst 1, 1) := by decide +kernel
theorem dX1_isWriting_25 : decode cX1_isWriting 25 = .ok (.goto 4, 3) := by decide +kernel
theorem dX1_isWriting_28 : decode cX1_isWriting 28 = .ok (.iconst 0, 1) := by decide +kernel
theorem dX1_isWriting_29 : decode cX1_isWriting 29 = .ok (.ireturn, 1) := by decide +kernel
theorem dX1_mendings_0 : decode cX1_mendings 0 = .ok (.iconst 0, 1) := by decide +kernel
theorem dX1_mendings_1 : decode cX1_mendings 1 = .ok (.istore 4, 2) := by decide +kernel
theorem dX1_mendings_3 : decode cX1_mendings 3 = .ok (.iload_n 1, 1) := by decide +kernel
theorem dX1_mendings_4 : decode cX1_mendings 4 = .ok (.invokestatic 39, 3) := by decide +kernel
theorem dX1_mendings_7 : decode cX1_mendings 7 = .ok (.aload_n 0, 1) := by decide +kernel
theorem dX1_mendings_8 : decode cX1_mendings 8 = .ok (.getfield 33, 3) := by decide +kernel
theorem dX1_mendings_11 : decode cX1_mendings 11 = .ok (.getfield 45, 3) := by decide +kernel
theorem dX1_mendings_14 : decode cX1_mendings 14 = .ok (.if_icmp .le 6, 3) := by decide +kernel
theorem dX1_mendings_17 : decode cX1_mendings 17 = .ok (.iload 4, 2) := by decide +kernel
theorem dX1_mendings_19 : decode cX1_mendings 19 = .ok (.ireturn, 1) := by decide +kernel
theorem dX1_mendings_20 : decode cX1_mendings 20 = .ok (.aload_n 0, 1) := by decide +kernel
theorem dX1_mendings_21 : decode cX1_mendings 21 = .ok (.iload_n 1, 1) := by decide +kernel
theorem dX1_mendings_22 : decode cX1_mendings 22 = .ok (.invokevirtual 50, 3) := by decide +kernel
theorem dX1_mendings_25 : decode cX1_mendings 25 = .ok (.lstore 5, 2) := by decide +kernel
theorem dX1_mendings_27 : decode cX1_mendings 27 = .ok (.iconst 1, 1) := by decide +kernel
theorem dX1_mendings_28 : decode cX1_mendings 28 = .ok (.istore 7, 2) := by decide +kernel
theorem dX1_mendings_30 : decode cX1_mendings 30 = .ok (.iload 7, 2) := by decide +kernel
theorem dX1_mendings_32 : decode cX1_mendings 32 = .ok (.aload_n 0, 1) := by decide +kernel
theorem dX1_mendings_33 : decode cX1_mendings 33 = .ok (.getfield 33, 3) := by decide +kernel
theorem dX1_mendings_36 : decode cX1_mendings 36 = .ok (.getfield 58, 3) := by decide +kernel
theorem dX1_mendings_39 : decode cX1_mendings 39 = .ok (.if_icmp .gt 108, 3) := by decide +kernel
theorem dX1_mendings_42 : decode cX1_mendings 42 = .ok (.iconst 1, 1) := by decide +kernel
theorem dX1_mendings_43 : decode cX1_mendings 43 = .ok (.istore 8, 2) := by decide +kernel
theorem dX1_mendings_45 : decode cX1_mendings 45 = .ok (.iload 8, 2) := by decide +kernel
theorem dX1_mendings_47 : decode cX1_mendings 47 = .ok (.aload_n 0, 1) := by decide +kernel
theorem dX1_mendings_48 : decode cX1_mendings 48 = .ok (.getfield 33, 3) := by decide +kernel
theorem dX1_mendings_51 : decode cX1_mendings 51 = .ok (.getfield 58, 3) := by decide +kernel
theorem dX1_mendings_54 : decode cX1_mendings 54 = .ok (.if_icmp .gt 87, 3) := by decide +kernel
theorem dX1_mendings_57 : decode cX1_mendings 57 = .ok (.iload_n 1, 1) := by decide +kernel
theorem dX1_mendings_58 : decode cX1_mendings 58 = .ok (.iload 7, 2) := by decide +kernel
theorem dX1_mendings_60 : decode cX1_mendings 60 = .ok (.iconst 1, 1) := by decide +kernel
theorem dX1_mendings_61 : decode cX1_mendings 61 = .ok (.isub, 1) := by decide +kernel
theorem dX1_mendings_62 : decode cX1_mendings 62 = .ok (.ishr, 1) := by decide +kernel
theorem dX1_mendings_63 : decode cX1_mendings 63 = .ok (.iconst 1, 1) := by decide +kernel
theorem dX1_mendings_64 : decode cX1_mendings 64 = .ok (.iand, 1) := by decide +kernel
theorem dX1_mendings_65 : decode cX1_mendings 65 = .ok (.iconst 1, 1) := by decide +kernel
theorem dX1_mendings_66 : decode cX1_mendings 66 = .ok (.if_icmp .ne 18, 3) := by decide +kernel
theorem dX1_mendings_69 : decode cX1_mendings 69 = .ok (.iload_n 1, 1) := by decide +kernel
theorem dX1_mendings_70 : decode cX1_mendings 70 = .ok (.iload 8, 2) := by decide +kernel
theorem dX1_mendings_72 : decode cX1_mendings 72 = .ok (.iconst 1, 1) := by decide +kernel
theorem dX1_mendings_73 : decode cX1_mendings 73 = .ok (.isub, 1) := by decide +kernel
theorem dX1_mendings_74 : decode cX1_mendings 74 = .ok (.ishr, 1) := by decide +kernel
theorem dX1_mendings_75 : decode cX1_mendings 75 = .ok (.iconst 1, 1) := by decide +kernel
theorem dX1_mendings_76 : decode cX1_mendings 76 = .ok (.iand, 1) := by decide +kernel
theorem dX1_mendings_77 : decode cX1_mendings 77 = .ok (.ifCond .ne 7, 3) := by decide +kernel
theorem dX1_mendings_80 : decode cX1_mendings 80 = .ok (.iconst 1, 1) := by decide +kernel
theorem dX1_mendings_81 : decode cX1_mendings 81 = .ok (.goto 4, 3) := by decide +kernel
theorem dX1_mendings_84 : decode cX1_mendings 84 = .ok (.iconst 0, 1) := by decide +kernel
theorem dX1_mendings_85 : decode cX1_mendings 85 = .ok (.istore 9, 2) := by decide +kernel
theorem dX1_mendings_87 : decode cX1_mendings 87 = .ok (.iload 9, 2) := by decide +kernel
theorem dX1_mendings_89 : decode cX1_mendings 89 = .ok (.ifCond .eq 46, 3) := by decide +kernel
theorem dX1_mendings_92 : decode cX1_mendings 92 = .ok (.lload 5, 2) := by decide +kernel
theorem dX1_mendings_94 : decode cX1_mendings 94 = .ok (.aload_n 0, 1) := by decide +kernel
theorem dX1_mendings_95 : decode cX1_mendings 95 = .ok (.getfield 9, 3) := by decide +kernel
theorem dX1_mendings_98 : decode cX1_mendings 98 = .ok (.iload 7, 2) := by decide +kernel
theorem dX1_mendings_100 : decode cX1_mendings 100 = .ok (.laload, 1) := by decide +kernel
theorem dX1_mendings_101 : decode cX1_mendings 101 = .ok (.lsub, 1) := by decide +kernel
theorem dX1_mendings_102 : decode cX1_mendings 102 = .ok (.aload_n 0, 1) := by decide +kernel
theorem dX1_mendings_103 : decode cX1_mendings 103 = .ok (.getfield 9, 3) := by decide +kernel
theorem dX1_mendings_106 : decode cX1_mendings 106 = .ok (.iload 8, 2) := by decide +kernel
theorem dX1_mendings_108 : decode cX1_mendings 108 = .ok (.laload, 1) := by decide +kernel
theorem dX1_mendings_109 : decode cX1_mendings 109 = .ok (.ladd, 1) := by decide +kernel
theorem dX1_mendings_110 : decode cX1_mendings 110 = .ok (.lload_n 2, 1) := by decide +kernel
theorem dX1_mendings_111 : decode cX1_mendings 111 = .ok (.lcmp, 1) := by decide +kernel
theorem dX1_mendings_112 : decode cX1_mendings 112 = .ok (.ifCond .ne 23, 3) := by decide +kernel
theorem dX1_mendings_115 : decode cX1_mendings 115 = .ok (.iload 4, 2) := by decide +kernel
theorem dX1_mendings_117 : decode cX1_mendings 117 = .ok (.ifCond .ne 15, 3) := by decide +kernel
theorem dX1_mendings_120 : decode cX1_mendings 120 = .ok (.aload_n 0, 1) := by decide +kernel
theorem dX1_mendings_121 : decode cX1_mendings 121 = .ok (.iload 7, 2) := by decide +kernel
theorem dX1_mendings_123 : decode cX1_mendings 123 = .ok (.putfield 23, 3) := by decide +kernel
theorem dX1_mendings_126 : decode cX1_mendings 126 = .ok (.aload_n 0, 1) := by decide +kernel
theorem dX1_mendings_127 : decode cX1_mendings 127 = .ok (.iload 8, 2) := by decide +kernel
theorem dX1_mendings_129 : decode cX1_mendings 129 = .ok (.putfield 26, 3) := by decide +kernel
theorem dX1_mendings_132 : decode cX1_mendings 132 = .ok (.iinc 4 1, 3) := by decide +kernel
theorem dX1_mendings_135 : decode cX1_mendings 135 = .ok (.iinc 8 1, 3) := by decide +kernel
theorem dX1_mendings_138 : decode cX1_mendings 138 = .ok (.goto (-93), 3) := by decide +kernel
theorem dX1_mendings_141 : decode cX1_mendings 141 = .ok (.iinc 7 1, 3) := by decide +kernel
theorem dX1_mendings_144 : decode cX1_mendings 144 = .ok (.goto (-114), 3) := by decide +kernel
theorem dX1_mendings_147 : decode cX1_mendings 147 = .ok (.iload 4, 2) := by decide +kernel
theorem dX1_mendings_149 : decode cX1_mendings 149 = .ok (.ireturn, 1) := by decide +kernel
theorem dX1_shortestSet_0 : decode cX1_shortestSet 0 = .ok (.aload_n 0, 1) := by decide +kernel
theorem dX1_shortestSet_1 : decode cX1_shortestSet 1 = .ok (.lload_n 1, 1) := by decide +kernel
theorem dX1_shortestSet_2 : decode cX1_shortestSet 2 = .ok (.invokevirtual 65, 3) := by decide +kernel
theorem dX1_shortestSet_5 : decode cX1_shortestSet 5 = .ok (.pop, 1) := by decide +kernel
theorem dX1_shortestSet_6 : decode cX1_shortestSet 6 = .ok (.iconst 0, 1) := by decide +kernel
theorem dX1_shortestSet_7 : decode cX1_shortestSet 7 = .ok (.istore_n 3, 1) := by decide +kernel
theorem dX1_shortestSet_8 : decode cX1_shortestSet 8 = .ok (.iconst 0, 1) := by decide +kernel
theorem dX1_shortestSet_9 : decode cX1_shortestSet 9 = .ok (.istore 4, 2) := by decide +kernel
theorem dX1_shortestSet_11 : decode cX1_shortestSet 11 = .ok (.iload 4, 2) := by decide +kernel
theorem dX1_shortestSet_13 : decode cX1_shortestSet 13 = .ok (.aload_n 0, 1) := by decide +kernel
theorem dX1_shortestSet_14 : decode cX1_shortestSet 14 = .ok (.getfield 19, 3) := by decide +kernel
theorem dX1_shortestSet_17 : decode cX1_shortestSet 17 = .ok (.if_icmp .ge 38, 3) := by decide +kernel
theorem dX1_shortestSet_20 : decode cX1_shortestSet 20 = .ok (.iload_n 3, 1) := by decide +kernel
theorem dX1_shortestSet_21 : decode cX1_shortestSet 21 = .ok (.ifCond .eq 20, 3) := by decide +kernel
theorem dX1_shortestSet_24 : decode cX1_shortestSet 24 = .ok (.aload_n 0, 1) := by decide +kernel
theorem dX1_shortestSet_25 : decode cX1_shortestSet 25 = .ok (.getfield 15, 3) := by decide +kernel
theorem dX1_shortestSet_28 : decode cX1_shortestSet 28 = .ok (.iload 4, 2) := by decide +kernel
theorem dX1_shortestSet_30 : decode cX1_shortestSet 30 = .ok (.iaload, 1) := by decide +kernel
theorem dX1_shortestSet_31 : decode cX1_shortestSet 31 = .ok (.invokestatic 39, 3) := by decide +kernel
theorem dX1_shortestSet_34 : decode cX1_shortestSet 34 = .ok (.iload_n 3, 1) := by decide +kernel
theorem dX1_shortestSet_35 : decode cX1_shortestSet 35 = .ok (.invokestatic 39, 3) := by decide +kernel
theorem dX1_shortestSet_38 : decode cX1_shortestSet 38 = .ok (.if_icmp .ge 11, 3) := by decide +kernel
theorem dX1_shortestSet_41 : decode cX1_shortestSet 41 = .ok (.aload_n 0, 1) := by decide +kernel
theorem dX1_shortestSet_42 : decode cX1_shortestSet 42 = .ok (.getfield 15, 3) := by decide +kernel
theorem dX1_shortestSet_45 : decode cX1_shortestSet 45 = .ok (.iload 4, 2) := by decide +kernel
theorem dX1_shortestSet_47 : decode cX1_shortestSet 47 = .ok (.iaload, 1) := by decide +kernel
theorem dX1_shortestSet_48 : decode cX1_shortestSet 48 = .ok (.istore_n 3, 1) := by decide +kernel
theorem dX1_shortestSet_49 : decode cX1_shortestSet 49 = .ok (.iinc 4 1, 3) := by decide +kernel
theorem dX1_shortestSet_52 : decode cX1_shortestSet 52 = .ok (.goto (-41), 3) := by decide +kernel
theorem dX1_shortestSet_55 : decode cX1_shortestSet 55 = .ok (.iload_n 3, 1) := by decide +kernel
theorem dX1_shortestSet_56 : decode cX1_shortestSet 56 = .ok (.ireturn, 1) := by decide +kernel
theorem dX1_units_0 : decode cX1_units 0 = .ok (.iload_n 2, 1) := by decide +kernel
theorem dX1_units_1 : decode cX1_units 1 = .ok (.ifCond .le 29, 3) := by decide +kernel
theorem dX1_units_4 : decode cX1_units 4 = .ok (.iload_n 1, 1) := by decide +kernel
theorem dX1_units_5 : decode cX1_units 5 = .ok (.i2l, 1) := by decide +kernel
theorem dX1_units_6 : decode cX1_units 6 = .ok (.ldc2_w 37, 3) := by decide +kernel
theorem dX1_units_9 : decode cX1_units 9 = .ok (.lmul, 1) := by decide +kernel
theorem dX1_units_10 : decode cX1_units 10 = .ok (.iload_n 2, 1) := by decide +kernel
theorem dX1_units_11 : decode cX1_units 11 = .ok (.i2l, 1) := by decide +kernel
theorem dX1_units_12 : decode cX1_units 12 = .ok (.lrem, 1) := by decide +kernel
theorem dX1_units_13 : decode cX1_units 13 = .ok (.lconst 0, 1) := by decide +kernel
theorem dX1_units_14 : decode cX1_units 14 = .ok (.lcmp, 1) := by decide +kernel
theorem dX1_units_15 : decode cX1_units 15 = .ok (.ifCond .ne 15, 3) := by decide +kernel
theorem dX1_units_18 : decode cX1_units 18 = .ok (.iload_n 1, 1) := by decide +kernel
theorem dX1_units_19 : decode cX1_units 19 = .ok (.i2l, 1) := by decide +kernel
theorem dX1_units_20 : decode cX1_units 20 = .ok (.ldc2_w 37, 3) := by decide +kernel
theorem dX1_units_23 : decode cX1_units 23 = .ok (.lmul, 1) := by decide +kernel
theorem dX1_units_24 : decode cX1_units 24 = .ok (.iload_n 2, 1) := by decide +kernel
theorem dX1_units_25 : decode cX1_units 25 = .ok (.i2l, 1) := by decide +kernel
theorem dX1_units_26 : decode cX1_units 26 = .ok (.ldiv, 1) := by decide +kernel
theorem dX1_units_27 : decode cX1_units 27 = .ok (.goto 4, 3) := by decide +kernel
theorem dX1_units_30 : decode cX1_units 30 = .ok (.lconst 0, 1) := by decide +kernel
theorem dX1_units_31 : decode cX1_units 31 = .ok (.lreturn, 1) := by decide +kernel
theorem dX2_add_0 : decode cX2_add 0 = .ok (.aload_n 0, 1) := by decide +kernel
theorem dX2_add_1 : decode cX2_add 1 = .ok (.getfield 18, 3) := by decide +kernel
theorem dX2_add_4 : decode cX2_add 4 = .ok (.aload_n 0, 1) := by decide +kernel
theorem dX2_add_5 : decode cX2_add 5 = .ok (.getfield 11, 3) := by decide +kernel
theorem dX2_add_8 : decode cX2_add 8 = .ok (.arraylength, 1) := by decide +kernel
theorem dX2_add_9 : decode cX2_add 9 = .ok (.if_icmp .ge 28, 3) := by decide +kernel
theorem dX2_add_12 : decode cX2_add 12 = .ok (.aload_n 0, 1) := by decide +kernel
theorem dX2_add_13 : decode cX2_add 13 = .ok (.getfield 11, 3) := by decide +kernel
theorem dX2_add_16 : decode cX2_add 16 = .ok (.aload_n 0, 1) := by decide +kernel
theorem dX2_add_17 : decode cX2_add 17 = .ok (.getfield 18, 3) := by decide +kernel
theorem dX2_add_20 : decode cX2_add 20 = .ok (.iload_n 2, 1) := by decide +kernel
theorem dX2_add_21 : decode cX2_add 21 = .ok (.bipush 16, 2) := by decide +kernel
theorem dX2_add_23 : decode cX2_add 23 = .ok (.imul, 1) := by decide +kernel
theorem dX2_add_24 : decode cX2_add 24 = .ok (.iload_n 1, 1) := by decide +kernel
theorem dX2_add_25 : decode cX2_add 25 = .ok (.iadd, 1) := by decide +kernel
theorem dX2_add_26 : decode cX2_add 26 = .ok (.iastore, 1) := by decide +kernel
theorem dX2_add_27 : decode cX2_add 27 = .ok (.aload_n 0, 1) := by decide +kernel
theorem dX2_add_28 : decode cX2_add 28 = .ok (.dup, 1) := by decide +kernel
theorem dX2_add_29 : decode cX2_add 29 = .ok (.getfield 18, 3) := by decide +kernel
theorem dX2_add_32 : decode cX2_add 32 = .ok (.iconst 1, 1) := by decide +kernel
theorem dX2_add_33 : decode cX2_add 33 = .ok (.iadd, 1) := by decide +kernel
theorem dX2_add_34 : decode cX2_add 34 = .ok (.putfield 18, 3) := by decide +kernel
theorem dX2_add_37 : decode cX2_add 37 = .ok (.return_, 1) := by decide +kernel
theorem dX2_clear_0 : decode cX2_clear 0 = .ok (.aload_n 0, 1) := by decide +kernel
theorem dX2_clear_1 : decode cX2_clear 1 = .ok (.iconst 0, 1) := by decide +kernel
theorem dX2_clear_2 : decode cX2_clear 2 = .ok (.putfield 18, 3) := by decide +kernel
theorem dX2_clear_5 : decode cX2_clear 5 = .ok (.return_, 1) := by decide +kernel
theorem dX2_take_0 : decode cX2_take 0 = .ok (.aload_n 0, 1) := by decide +kernel
theorem dX2_take_1 : decode cX2_take 1 = .ok (.aload_n 1, 1) := by decide +kernel
theorem dX2_take_2 : decode cX2_take 2 = .ok (.getfield 18, 3) := by decide +kernel
theorem dX2_take_5 : decode cX2_take 5 = .ok (.putfield 18, 3) := by decide +kernel
theorem dX2_take_8 : decode cX2_take 8 = .ok (.aload_n 1, 1) := by decide +kernel
theorem dX2_take_9 : decode cX2_take 9 = .ok (.getfield 11, 3) := by decide +kernel
theorem dX2_take_12 : decode cX2_take 12 = .ok (.iconst 0, 1) := by decide +kernel
theorem dX2_take_13 : decode cX2_take 13 = .ok (.aload_n 0, 1) := by decide +kernel
theorem dX2_take_14 : decode cX2_take 14 = .ok (.getfield 11, 3) := by decide +kernel
theorem dX2_take_17 : decode cX2_take 17 = .ok (.iconst 0, 1) := by decide +kernel
theorem dX2_take_18 : decode cX2_take 18 = .ok (.aload_n 0, 1) := by decide +kernel
theorem dX2_take_19 : decode cX2_take 19 = .ok (.getfield 18, 3) := by decide +kernel
theorem dX2_take_22 : decode cX2_take 22 = .ok (.invokestatic 22, 3) := by decide +kernel
theorem dX2_take_25 : decode cX2_take 25 = .ok (.return_, 1) := by decide +kernel
theorem dX9_takeCourse_0 : decode cX9_takeCourse 0 = .ok (.aload_n 0, 1) := by decide +kernel
theorem dX9_takeCourse_1 : decode cX9_takeCourse 1 = .ok (.aload_n 1, 1) := by decide +kernel
theorem dX9_takeCourse_2 : decode cX9_takeCourse 2 = .ok (.getfield 9, 3) := by decide +kernel
theorem dX9_takeCourse_5 : decode cX9_takeCourse 5 = .ok (.putfield 9, 3) := by decide +kernel
theorem dX9_takeCourse_8 : decode cX9_takeCourse 8 = .ok (.aload_n 1, 1) := by decide +kernel
theorem dX9_takeCourse_9 : decode cX9_takeCourse 9 = .ok (.getfield 15, 3) := by decide +kernel
theorem dX9_takeCourse_12 : decode cX9_takeCourse 12 = .ok (.iconst 0, 1) := by decide +kernel
theorem dX9_takeCourse_13 : decode cX9_takeCourse 13 = .ok (.aload_n 0, 1) := by decide +kernel
theorem dX9_takeCourse_14 : decode cX9_takeCourse 14 = .ok (.getfield 15, 3) := by decide +kernel
theorem dX9_takeCourse_17 : decode cX9_takeCourse 17 = .ok (.iconst 0, 1) := by decide +kernel
theorem dX9_takeCourse_18 : decode cX9_takeCourse 18 = .ok (.bipush 25, 2) := by decide +kernel
theorem dX9_takeCourse_20 : decode cX9_takeCourse 20 = .ok (.invokestatic 39, 3) := by decide +kernel
theorem dX9_takeCourse_23 : decode cX9_takeCourse 23 = .ok (.aload_n 1, 1) := by decide +kernel
theorem dX9_takeCourse_24 : decode cX9_takeCourse 24 = .ok (.getfield 19, 3) := by decide +kernel
theorem dX9_takeCourse_27 : decode cX9_takeCourse 27 = .ok (.iconst 0, 1) := by decide +kernel
theorem dX9_takeCourse_28 : decode cX9_takeCourse 28 = .ok (.aload_n 0, 1) := by decide +kernel
theorem dX9_takeCourse_29 : decode cX9_takeCourse 29 = .ok (.getfield 19, 3) := by decide +kernel
theorem dX9_takeCourse_32 : decode cX9_takeCourse 32 = .ok (.iconst 0, 1) := by decide +kernel
theorem dX9_takeCourse_33 : decode cX9_takeCourse 33 = .ok (.bipush 6, 2) := by decide +kernel
theorem dX9_takeCourse_35 : decode cX9_takeCourse 35 = .ok (.invokestatic 39, 3) := by decide +kernel
theorem dX9_takeCourse_38 : decode cX9_takeCourse 38 = .ok (.aload_n 1, 1) := by decide +kernel
theorem dX9_takeCourse_39 : decode cX9_takeCourse 39 = .ok (.getfield 22, 3) := by decide +kernel
theorem dX9_takeCourse_42 : decode cX9_takeCourse 42 = .ok (.iconst 0, 1) := by decide +kernel
theorem dX9_takeCourse_43 : decode cX9_takeCourse 43 = .ok (.aload_n 0, 1) := by decide +kernel
theorem dX9_takeCourse_44 : decode cX9_takeCourse 44 = .ok (.getfield 22, 3) := by decide +kernel
theorem dX9_takeCourse_47 : decode cX9_takeCourse 47 = .ok (.iconst 0, 1) := by decide +kernel
theorem dX9_takeCourse_48 : decode cX9_takeCourse 48 = .ok (.bipush 6, 2) := by decide +kernel
theorem dX9_takeCourse_50 : decode cX9_takeCourse 50 = .ok (.invokestatic 39, 3) := by decide +kernel
theorem dX9_takeCourse_53 : decode cX9_takeCourse 53 = .ok (.return_, 1) := by decide +kernel
theorem dX9_takeAll_0 : decode cX9_takeAll 0 = .ok (.aload_n 0, 1) := by decide +kernel
theorem dX9_takeAll_1 : decode cX9_takeAll 1 = .ok (.aload_n 1, 1) := by decide +kernel
theorem dX9_takeAll_2 : decode cX9_takeAll 2 = .ok (.invokevirtual 48, 3) := by decide +kernel
theorem dX9_takeAll_5 : decode cX9_takeAll 5 = .ok (.aload_n 1, 1) := by decide +kernel
theorem dX9_takeAll_6 : decode cX9_takeAll 6 = .ok (.getfield 25, 3) := by decide +kernel
theorem dX9_takeAll_9 : decode cX9_takeAll 9 = .ok (.iconst 0, 1) := by decide +kernel
theorem dX9_takeAll_10 : decode cX9_takeAll 10 = .ok (.aload_n 0, 1) := by decide +kernel
theorem dX9_takeAll_11 : decode cX9_takeAll 11 = .ok (.getfield 25, 3) := by decide +kernel
theorem dX9_takeAll_14 : decode cX9_takeAll 14 = .ok (.iconst 0, 1) := by decide +kernel
theorem dX9_takeAll_15 : decode cX9_takeAll 15 = .ok (.bipush 120, 2) := by decide +kernel
theorem dX9_takeAll_17 : decode cX9_takeAll 17 = .ok (.invokestatic 39, 3) := by decide +kernel
theorem dX9_takeAll_20 : decode cX9_takeAll 20 = .ok (.aload_n 0, 1) := by decide +kernel
theorem dX9_takeAll_21 : decode cX9_takeAll 21 = .ok (.aload_n 1, 1) := by decide +kernel
theorem dX9_takeAll_22 : decode cX9_takeAll 22 = .ok (.getfield 28, 3) := by decide +kernel
theorem dX9_takeAll_25 : decode cX9_takeAll 25 = .ok (.putfield 28, 3) := by decide +kernel
theorem dX9_takeAll_28 : decode cX9_takeAll 28 = .ok (.aload_n 0, 1) := by decide +kernel
theorem dX9_takeAll_29 : decode cX9_takeAll 29 = .ok (.aload_n 1, 1) := by decide +kernel
theorem dX9_takeAll_30 : decode cX9_takeAll 30 = .ok (.getfield 31, 3) := by decide +kernel
theorem dX9_takeAll_33 : decode cX9_takeAll 33 = .ok (.putfield 31, 3) := by decide +kernel
theorem dX9_takeAll_36 : decode cX9_takeAll 36 = .ok (.return_, 1) := by decide +kernel
theorem dX3_back_0 : decode cX3_back 0 = .ok (.aload_n 0, 1) := by decide +kernel
theorem dX3_back_1 : decode cX3_back 1 = .ok (.getfield 19, 3) := by decide +kernel
theorem dX3_back_4 : decode cX3_back 4 = .ok (.ifCond .ne 5, 3) := by decide +kernel
theorem dX3_back_7 : decode cX3_back 7 = .ok (.iconst 0, 1) := by decide +kernel
theorem dX3_back_8 : decode cX3_back 8 = .ok (.ireturn, 1) := by decide +kernel
theorem dX3_back_9 : decode cX3_back 9 = .ok (.aload_n 0, 1) := by decide +kernel
theorem dX3_back_10 : decode cX3_back 10 = .ok (.dup, 1) := by decide +kernel
theorem dX3_back_11 : decode cX3_back 11 = .ok (.getfield 19, 3) := by decide +kernel
theorem dX3_back_14 : decode cX3_back 14 = .ok (.iconst 1, 1) := by decide +kernel
theorem dX3_back_15 : decode cX3_back 15 = .ok (.isub, 1) := by decide +kernel
theorem dX3_back_16 : decode cX3_back 16 = .ok (.putfield 19, 3) := by decide +kernel
theorem dX3_back_19 : decode cX3_back 19 = .ok (.aload_n 1, 1) := by decide +kernel
theorem dX3_back_20 : decode cX3_back 20 = .ok (.aload_n 0, 1) := by decide +kernel
theorem dX3_back_21 : decode cX3_back 21 = .ok (.getfield 11, 3) := by decide +kernel
theorem dX3_back_24 : decode cX3_back 24 = .ok (.aload_n 0, 1) := by decide +kernel
theorem dX3_back_25 : decode cX3_back 25 = .ok (.getfield 15, 3) := by decide +kernel
theorem dX3_back_28 : decode cX3_back 28 = .ok (.aload_n 0, 1) := by decide +kernel
theorem dX3_back_29 : decode cX3_back 29 = .ok (.getfield 19, 3) := by decide +kernel
theorem dX3_back_32 : decode cX3_back 32 = .ok (.iadd, 1) := by decide +kernel
theorem dX3_back_33 : decode cX3_back 33 = .ok (.bipush 20, 2) := by decide +kernel
theorem dX3_back_35 : decode cX3_back 35 = .ok (.irem, 1) := by decide +kernel
theorem dX3_back_36 : decode cX3_back 36 = .ok (.aaload, 1) := by decide +kernel
theorem dX3_back_37 : decode cX3_back 37 = .ok (.invokevirtual 23, 3) := by decide +kernel
theorem dX3_back_40 : decode cX3_back 40 = .ok (.iconst 1, 1) := by decide +kernel
theorem dX3_back_41 : decode cX3_back 41 = .ok (.ireturn, 1) := by decide +kernel
theorem dX3_forget_0 : decode cX3_forget 0 = .ok (.aload_n 0, 1) := by decide +kernel
theorem dX3_forget_1 : decode cX3_forget 1 = .ok (.iconst 0, 1) := by decide +kernel
theorem dX3_forget_2 : decode cX3_forget 2 = .ok (.putfield 15, 3) := by decide +kernel
theorem dX3_forget_5 : decode cX3_forget 5 = .ok (.aload_n 0, 1) := by decide +kernel
theorem dX3_forget_6 : decode cX3_forget 6 = .ok (.iconst 0, 1) := by decide +kernel
theorem dX3_forget_7 : decode cX3_forget 7 = .ok (.putfield 19, 3) := by decide +kernel
theorem dX3_forget_10 : decode cX3_forget 10 = .ok (.return_, 1) := by decide +kernel
theorem dX3_keep_0 : decode cX3_keep 0 = .ok (.aload_n 0, 1) := by decide +kernel
theorem dX3_keep_1 : decode cX3_keep 1 = .ok (.getfield 11, 3) := by decide +kernel
theorem dX3_keep_4 : decode cX3_keep 4 = .ok (.aload_n 0, 1) := by decide +kernel
theorem dX3_keep_5 : decode cX3_keep 5 = .ok (.getfield 15, 3) := by decide +kernel
theorem dX3_keep_8 : decode cX3_keep 8 = .ok (.aload_n 0, 1) := by decide +kernel
theorem dX3_keep_9 : decode cX3_keep 9 = .ok (.getfield 19, 3) := by decide +kernel
theorem dX3_keep_12 : decode cX3_keep 12 = .ok (.iadd, 1) := by decide +kernel
theorem dX3_keep_13 : decode cX3_keep 13 = .ok (.bipush 20, 2) := by decide +kernel
theorem dX3_keep_15 : decode cX3_keep 15 = .ok (.irem, 1) := by decide +kernel
theorem dX3_keep_16 : decode cX3_keep 16 = .ok (.aaload, 1) := by decide +kernel
theorem dX3_keep_17 : decode cX3_keep 17 = .ok (.aload_n 1, 1) := by decide +kernel
theorem dX3_keep_18 : decode cX3_keep 18 = .ok (.invokevirtual 23, 3) := by decide +kernel
theorem dX3_keep_21 : decode cX3_keep 21 = .ok (.aload_n 0, 1) := by decide +kernel
theorem dX3_keep_22 : decode cX3_keep 22 = .ok (.getfield 19, 3) := by decide +kernel
theorem dX3_keep_25 : decode cX3_keep 25 = .ok (.bipush 20, 2) := by decide +kernel
theorem dX3_keep_27 : decode cX3_keep 27 = .ok (.if_icmp .ge 16, 3) := by decide +kernel
theorem dX3_keep_30 : decode cX3_keep 30 = .ok (.aload_n 0, 1) := by decide +kernel
theorem dX3_keep_31 : decode cX3_keep 31 = .ok (.dup, 1) := by decide +kernel
theorem dX3_keep_32 : decode cX3_keep 32 = .ok (.getfield 19, 3) := by decide +kernel
theorem dX3_keep_35 : decode cX3_keep 35 = .ok (.iconst 1, 1) := by decide +kernel
theorem dX3_keep_36 : decode cX3_keep 36 = .ok (.iadd, 1) := by decide +kernel
theorem dX3_keep_37 : decode cX3_keep 37 = .ok (.putfield 19, 3) := by decide +kernel
theorem dX3_keep_40 : decode cX3_keep 40 = .ok (.goto 16, 3) := by decide +kernel
theorem dX3_keep_43 : decode cX3_keep 43 = .ok (.aload_n 0, 1) := by decide +kernel
theorem dX3_keep_44 : decode cX3_keep 44 = .ok (.aload_n 0, 1) := by decide +kernel
theorem dX3_keep_45 : decode cX3_keep 45 = .ok (.getfield 15, 3) := by decide +kernel
theorem dX3_keep_48 : decode cX3_keep 48 = .ok (.iconst 1, 1) := by decide +kernel
theorem dX3_keep_49 : decode cX3_keep 49 = .ok (.iadd, 1) := by decide +kernel
theorem dX3_keep_50 : decode cX3_keep 50 = .ok (.bipush 20, 2) := by decide +kernel
theorem dX3_keep_52 : decode cX3_keep 52 = .ok (.irem, 1) := by decide +kernel
theorem dX3_keep_53 : decode cX3_keep 53 = .ok (.putfield 15, 3) := by decide +kernel
theorem dX3_keep_56 : decode cX3_keep 56 = .ok (.return_, 1) := by decide +kernel
theorem dX8_fail_0 : decode cX8_fail 0 = .ok (.aload_n 0, 1) := by decide +kernel
theorem dX8_fail_1 : decode cX8_fail 1 = .ok (.iload_n 1, 1) := by decide +kernel
theorem dX8_fail_2 : decode cX8_fail 2 = .ok (.putfield 21, 3) := by decide +kernel
theorem dX8_fail_5 : decode cX8_fail 5 = .ok (.aload_n 0, 1) := by decide +kernel
theorem dX8_fail_6 : decode cX8_fail 6 = .ok (.aload_n 0, 1) := by decide +kernel
theorem dX8_fail_7 : decode cX8_fail 7 = .ok (.getfield 15, 3) := by decide +kernel
theorem dX8_fail_10 : decode cX8_fail 10 = .ok (.putfield 24, 3) := by decide +kernel
theorem dX8_fail_13 : decode cX8_fail 13 = .ok (.iconst 0, 1) := by decide +kernel
theorem dX8_fail_14 : decode cX8_fail 14 = .ok (.ireturn, 1) := by decide +kernel
theorem dX8_advance_0 : decode cX8_advance 0 = .ok (.aload_n 0, 1) := by decide +kernel
theorem dX8_advance_1 : decode cX8_advance 1 = .ok (.getfield 18, 3) := by decide +kernel
theorem dX8_advance_4 : decode cX8_advance 4 = .ok (.istore_n 1, 1) := by decide +kernel
theorem dX8_advance_5 : decode cX8_advance 5 = .ok (.aload_n 0, 1) := by decide +kernel
theorem dX8_advance_6 : decode cX8_advance 6 = .ok (.getfield 11, 3) := by decide +kernel
theorem dX8_advance_9 : decode cX8_advance 9 = .ok (.iconst 1, 1) := by decide +kernel
theorem dX8_advance_10 : decode cX8_advance 10 = .ok (.if_icmp .eq 11, 3) := by decide +kernel
theorem dX8_advance_13 : decode cX8_advance 13 = .ok (.aload_n 0, 1) := by decide +kernel
theorem dX8_advance_14 : decode cX8_advance 14 = .ok (.getfield 11, 3) := by decide +kernel
theorem dX8_advance_17 : decode cX8_advance 17 = .ok (.iconst 2, 1) := by decide +kernel
theorem dX8_advance_18 : decode cX8_advance 18 = .ok (.if_icmp .ne 7, 3) := by decide +kernel
theorem dX8_advance_21 : decode cX8_advance 21 = .ok (.iconst 1, 1) := by decide +kernel
theorem dX8_advance_22 : decode cX8_advance 22 = .ok (.goto 4, 3) := by decide +kernel
theorem dX8_advance_25 : decode cX8_advance 25 = .ok (.iconst 0, 1) := by decide +kernel
theorem dX8_advance_26 : decode cX8_advance 26 = .ok (.istore_n 2, 1) := by decide +kernel
theorem dX8_advance_27 : decode cX8_advance 27 = .ok (.aload_n 0, 1) := by decide +kernel
theorem dX8_advance_28 : decode cX8_advance 28 = .ok (.getfield 18, 3) := by decide +kernel
theorem dX8_advance_31 : decode cX8_advance 31 = .ok (.aload_n 0, 1) := by decide +kernel
theorem dX8_advance_32 : decode cX8_advance 32 = .ok (.getfield 27, 3) := by decide +kernel
theorem dX8_advance_35 : decode cX8_advance 35 = .ok (.getfield 34, 3) := by decide +kernel
theorem dX8_advance_38 : decode cX8_advance 38 = .ok (.if_icmp .ge 50, 3) := by decide +kernel
theorem dX8_advance_41 : decode cX8_advance 41 = .ok (.aload_n 0, 1) := by decide +kernel
theorem dX8_advance_42 : decode cX8_advance 42 = .ok (.getfield 27, 3) := by decide +kernel
theorem dX8_advance_45 : decode cX8_advance 45 = .ok (.getfield 39, 3) := by decide +kernel
theorem dX8_advance_48 : decode cX8_advance 48 = .ok (.aload_n 0, 1) := by decide +kernel
theorem dX8_advance_49 : decode cX8_advance 49 = .ok (.getfield 18, 3) := by decide +kernel
theorem dX8_advance_52 : decode cX8_advance 52 = .ok (.iaload, 1) := by decide +kernel
theorem dX8_advance_53 : decode cX8_advance 53 = .ok (.bipush 32, 2) := by decide +kernel
theorem dX8_advance_55 : decode cX8_advance 55 = .ok (.if_icmp .eq 20, 3) := by decide +kernel
theorem dX8_advance_58 : decode cX8_advance 58 = .ok (.aload_n 0, 1) := by decide +kernel
theorem dX8_advance_59 : decode cX8_advance 59 = .ok (.getfield 27, 3) := by decide +kernel
theorem dX8_advance_62 : decode cX8_advance 62 = .ok (.getfield 39, 3) := by decide +kernel
theorem dX8_advance_65 : decode cX8_advance 65 = .ok (.aload_n 0, 1) := by decide +kernel
theorem dX8_advance_66 : decode cX8_advance 66 = .ok (.getfield 18, 3) := by decide +kernel
theorem dX8_advance_69 : decode cX8_advance 69 = .ok (.iaload, 1) := by decide +kernel
theorem dX8_advance_70 : decode cX8_advance 70 = .ok (.bipush 10, 2) := by decide +kernel
theorem dX8_advance_72 : decode cX8_advance 72 = .ok (.if_icmp .ne 16, 3) := by decide +kernel
theorem dX8_advance_75 : decode cX8_advance 75 = .ok (.aload_n 0, 1) := by decide +kernel
theorem dX8_advance_76 : decode cX8_advance 76 = .ok (.dup, 1) := by decide +kernel
theorem dX8_advance_77 : decode cX8_advance 77 = .ok (.getfield 18, 3) := by decide +kernel
theorem dX8_advance_80 : decode cX8_advance 80 = .ok (.iconst 1, 1) := by decide +kernel
theorem dX8_advance_81 : decode cX8_advance 81 = .ok (.iadd, 1) := by decide +kernel
theorem dX8_advance_82 : decode cX8_advance 82 = .ok (.putfield 18, 3) := by decide +kernel
theorem dX8_advance_85 : decode cX8_advance 85 = .ok (.goto (-58), 3) := by decide +kernel
theorem dX8_advance_88 : decode cX8_advance 88 = .ok (.aload_n 0, 1) := by decide +kernel
theorem dX8_advance_89 : decode cX8_advance 89 = .ok (.aload_n 0, 1) := by decide +kernel
theorem dX8_advance_90 : decode cX8_advance 90 = .ok (.getfield 18, 3) := by decide +kernel
theorem dX8_advance_93 : decode cX8_advance 93 = .ok (.putfield 15, 3) := by decide +kernel
theorem dX8_advance_96 : decode cX8_advance 96 = .ok (.aload_n 0, 1) := by decide +kernel
theorem dX8_advance_97 : decode cX8_advance 97 = .ok (.getfield 18, 3) := by decide +kernel
theorem dX8_advance_100 : decode cX8_advance 100 = .ok (.aload_n 0, 1) := by decide +kernel
theorem dX8_advance_101 : decode cX8_advance 101 = .ok (.getfield 27, 3) := by decide +kernel
theorem dX8_advance_104 : decode cX8_advance 104 = .ok (.getfield 34, 3) := by decide +kernel
theorem dX8_advance_107 : decode cX8_advance 107 = .ok (.if_icmp .lt 9, 3) := by decide +kernel
theorem dX8_advance_110 : decode cX8_advance 110 = .ok (.aload_n 0, 1) := by decide +kernel
theorem dX8_advance_111 : decode cX8_advance 111 = .ok (.iconst 0, 1) := by decide +kernel
theorem dX8_advance_112 : decode cX8_advance 112 = .ok (.putfield 11, 3) := by decide +kernel
theorem dX8_advance_115 : decode cX8_advance 115 = .ok (.return_, 1) := by decide +kernel
theorem dX8_advance_116 : decode cX8_advance 116 = .ok (.aload_n 0, 1) := by decide +kernel
theorem dX8_advance_117 : decode cX8_advance 117 = .ok (.getfield 27, 3) := by decide +kernel
theorem dX8_advance_120 : decode cX8_advance 120 = .ok (.getfield 39, 3) := by decide +kernel
theorem dX8_advance_123 : decode cX8_advance 123 = .ok (.aload_n 0, 1) := by decide +kernel
theorem dX8_advance_124 : decode cX8_advance 124 = .ok (.getfield 15, 3) := by decide +kernel
theorem dX8_advance_127 : decode cX8_advance 127 = .ok (.iaload, 1) := by decide +kernel
theorem dX8_advance_128 : decode cX8_advance 128 = .ok (.bipush 97, 2) := by decide +kernel
theorem dX8_advance_130 : decode cX8_advance 130 = .ok (.if_icmp .lt 24, 3) := by decide +kernel
theorem dX8_advance_133 : decode cX8_advance 133 = .ok (.aload_n 0, 1) := by decide +kernel
theorem dX8_advance_134 : decode cX8_advance 134 = .ok (.getfield 27, 3) := by decide +kernel
theorem dX8_advance_137 : decode cX8_advance 137 = .ok (.getfield 39, 3) := by decide +kernel
theorem dX8_advance_140 : decode cX8_advance 140 = .ok (.aload_n 0, 1) := by decide +kernel
theorem dX8_advance_141 : decode cX8_advance 141 = .ok (.getfield 15, 3) := by decide +kernel
theorem dX8_advance_144 : decode cX8_advance 144 = .ok (.iaload, 1) := by decide +kernel
theorem dX8_advance_145 : decode cX8_advance 145 = .ok (.bipush 122, 2) := by decide +kernel
theorem dX8_advance_147 : decode cX8_advance 147 = .ok (.if_icmp .gt 7, 3) := by decide +kernel
theorem dX8_advance_150 : decode cX8_advance 150 = .ok (.iconst 1, 1) := by decide +kernel
theorem dX8_advance_151 : decode cX8_advance 151 = .ok (.goto 4, 3) := by decide +kernel
theorem dX8_advance_154 : decode cX8_advance 154 = .ok (.iconst 0, 1) := by decide +kernel
theorem dX8_advance_155 : decode cX8_advance 155 = .ok (.istore_n 3, 1) := by decide +kernel
theorem dX8_advance_156 : decode cX8_advance 156 = .ok (.iload_n 3, 1) := by decide +kernel
theorem dX8_advance_157 : decode cX8_advance 157 = .ok (.ifCond .eq 8, 3) := by decide +kernel
theorem dX8_advance_160 : decode cX8_advance 160 = .ok (.bipush 97, 2) := by decide +kernel
theorem dX8_advance_162 : decode cX8_advance 162 = .ok (.goto 5, 3) := by decide +kernel
theorem dX8_advance_165 : decode cX8_advance 165 = .ok (.bipush 48, 2) := by decide +kernel
theorem dX8_advance_167 : decode cX8_advance 167 = .ok (.istore 4, 2) := by decide +kernel
theorem dX8_advance_169 : decode cX8_advance 169 = .ok (.iload_n 3, 1) := by decide +kernel
theorem dX8_advance_170 : decode cX8_advance 170 = .ok (.ifCond .eq 8, 3) := by decide +kernel
theorem dX8_advance_173 : decode cX8_advance 173 = .ok (.bipush 122, 2) := by decide +kernel
theorem dX8_advance_175 : decode cX8_advance 175 = .ok (.goto 5, 3) := by decide +kernel
theorem dX8_advance_178 : decode cX8_advance 178 = .ok (.bipush 57, 2) := by decide +kernel
theorem dX8_advance_180 : decode cX8_advance 180 = .ok (.istore 5, 2) := by decide +kernel
theorem dX8_advance_182 : decode cX8_advance 182 = .ok (.aload_n 0, 1) := by decide +kernel
theorem dX8_advance_183 : decode cX8_advance 183 = .ok (.getfield 18, 3) := by decide +kernel
theorem dX8_advance_186 : decode cX8_advance 186 = .ok (.aload_n 0, 1) := by decide +kernel
theorem dX8_advance_187 : decode cX8_advance 187 = .ok (.getfield 27, 3) := by decide +kernel
theorem dX8_advance_190 : decode cX8_advance 190 = .ok (.getfield 34, 3) := by decide +kernel
theorem dX8_advance_193 : decode cX8_advance 193 = .ok (.if_icmp .ge 50, 3) := by decide +kernel
theorem dX8_advance_196 : decode cX8_advance 196 = .ok (.aload_n 0, 1) := by decide +kernel
theorem dX8_advance_197 : decode cX8_advance 197 = .ok (.getfield 27, 3) := by decide +kernel
theorem dX8_advance_200 : decode cX8_advance 200 = .ok (.getfield 39, 3) := by decide +kernel
theorem dX8_advance_203 : decode cX8_advance 203 = .ok (.aload_n 0, 1) := by decide +kernel
theorem dX8_advance_204 : decode cX8_advance 204 = .ok (.getfield 18, 3) := by decide +kernel
theorem dX8_advance_207 : decode cX8_advance 207 = .ok (.iaload, 1) := by decide +kernel
theorem dX8_advance_208 : decode cX8_advance 208 = .ok (.iload 4, 2) := by decide +kernel
theorem dX8_advance_210 : decode cX8_advance 210 = .ok (.if_icmp .lt 33, 3) := by decide +kernel
theorem dX8_advance_213 : decode cX8_advance 213 = .ok (.aload_n 0, 1) := by decide +kernel
theorem dX8_advance_214 : decode cX8_advance 214 = .ok (.getfield 27, 3) := by decide +kernel
theorem dX8_advance_217 : decode cX8_advance 217 = .ok (.getfield 39, 3) := by decide +kernel
theorem dX8_advance_220 : decode cX8_advance 220 = .ok (.aload_n 0, 1) := by decide +kernel
theorem dX8_advance_221 : decode cX8_advance 221 = .ok (.getfield 18, 3) := by decide +kernel
theorem dX8_advance_224 : decode cX8_advance 224 = .ok (.iaload, 1) := by decide +kernel
theorem dX8_advance_225 : decode cX8_advance 225 = .ok (.iload 5, 2) := by decide +kernel
theorem dX8_advance_227 : decode cX8_advance 227 = .ok (.if_icmp .gt 16, 3) := by decide +kernel
theorem dX8_advance_230 : decode cX8_advance 230 = .ok (.aload_n 0, 1) := by decide +kernel
theorem dX8_advance_231 : decode cX8_advance 231 = .ok (.dup, 1) := by decide +kernel
theorem dX8_advance_232 : decode cX8_advance 232 = .ok (.getfield 18, 3) := by decide +kernel
theorem dX8_advance_235 : decode cX8_advance 235 = .ok (.iconst 1, 1) := by decide +kernel
theorem dX8_advance_236 : decode cX8_advance 236 = .ok (.iadd, 1) := by decide +kernel
theorem dX8_advance_237 : decode cX8_advance 237 = .ok (.putfield 18, 3) := by decide +kernel
theorem dX8_advance_240 : decode cX8_advance 240 = .ok (.goto (-58), 3) := by decide +kernel
theorem dX8_advance_243 : decode cX8_advance 243 = .ok (.aload_n 0, 1) := by decide +kernel
theorem dX8_advance_244 : decode cX8_advance 244 = .ok (.getfield 18, 3) := by decide +kernel
theorem dX8_advance_247 : decode cX8_advance 247 = .ok (.aload_n 0, 1) := by decide +kernel
theorem dX8_advance_248 : decode cX8_advance 248 = .ok (.getfield 15, 3) := by decide +kernel
theorem dX8_advance_251 : decode cX8_advance 251 = .ok (.if_icmp .ne 21, 3) := by decide +kernel
theorem dX8_advance_254 : decode cX8_advance 254 = .ok (.aload_n 0, 1) := by decide +kernel
theorem dX8_advance_255 : decode cX8_advance 255 = .ok (.iconst 3, 1) := by decide +kernel
theorem dX8_advance_256 : decode cX8_advance 256 = .ok (.putfield 11, 3) := by decide +kernel
theorem dX8_advance_259 : decode cX8_advance 259 = .ok (.aload_n 0, 1) := by decide +kernel
theorem dX8_advance_260 : decode cX8_advance 260 = .ok (.dup, 1) := by decide +kernel
theorem dX8_advance_261 : decode cX8_advance 261 = .ok (.getfield 18, 3) := by decide +kernel
theorem dX8_advance_264 : decode cX8_advance 264 = .ok (.iconst 1, 1) := by decide +kernel
theorem dX8_advance_265 : decode cX8_advance 265 = .ok (.iadd, 1) := by decide +kernel
theorem dX8_advance_266 : decode cX8_advance 266 = .ok (.putfield 18, 3) := by decide +kernel
theorem dX8_advance_269 : decode cX8_advance 269 = .ok (.goto 36, 3) := by decide +kernel
theorem dX8_advance_272 : decode cX8_advance 272 = .ok (.iload_n 2, 1) := by decide +kernel
theorem dX8_advance_273 : decode cX8_advance 273 = .ok (.ifCond .eq 19, 3) := by decide +kernel
theorem dX8_advance_276 : decode cX8_advance 276 = .ok (.aload_n 0, 1) := by decide +kernel
theorem dX8_advance_277 : decode cX8_advance 277 = .ok (.getfield 15, 3) := by decide +kernel
theorem dX8_advance_280 : decode cX8_advance 280 = .ok (.iload_n 1, 1) := by decide +kernel
theorem dX8_advance_281 : decode cX8_advance 281 = .ok (.if_icmp .ne 11, 3) := by decide +kernel
theorem dX8_advance_284 : decode cX8_advance 284 = .ok (.aload_n 0, 1) := by decide +kernel
theorem dX8_advance_285 : decode cX8_advance 285 = .ok (.iconst 4, 1) := by decide +kernel
theorem dX8_advance_286 : decode cX8_advance 286 = .ok (.putfield 11, 3) := by decide +kernel
theorem dX8_advance_289 : decode cX8_advance 289 = .ok (.goto 16, 3) := by decide +kernel
theorem dX8_advance_292 : decode cX8_advance 292 = .ok (.aload_n 0, 1) := by decide +kernel
theorem dX8_advance_293 : decode cX8_advance 293 = .ok (.iload_n 3, 1) := by decide +kernel
theorem dX8_advance_294 : decode cX8_advance 294 = .ok (.ifCond .eq 7, 3) := by decide +kernel
theorem dX8_advance_297 : decode cX8_advance 297 = .ok (.iconst 1, 1) := by decide +kernel
theorem dX8_advance_298 : decode cX8_advance 298 = .ok (.goto 4, 3) := by decide +kernel
theorem dX8_advance_301 : decode cX8_advance 301 = .ok (.iconst 2, 1) := by decide +kernel
theorem dX8_advance_302 : decode cX8_advance 302 = .ok (.putfield 11, 3) := by decide +kernel
theorem dX8_advance_305 : decode cX8_advance 305 = .ok (.return_, 1) := by decide +kernel
theorem dX8_failAt_0 : decode cX8_failAt 0 = .ok (.aload_n 0, 1) := by decide +kernel
theorem dX8_failAt_1 : decode cX8_failAt 1 = .ok (.iload_n 1, 1) := by decide +kernel
theorem dX8_failAt_2 : decode cX8_failAt 2 = .ok (.putfield 21, 3) := by decide +kernel
theorem dX8_failAt_5 : decode cX8_failAt 5 = .ok (.aload_n 0, 1) := by decide +kernel
theorem dX8_failAt_6 : decode cX8_failAt 6 = .ok (.iload_n 2, 1) := by decide +kernel
theorem dX8_failAt_7 : decode cX8_failAt 7 = .ok (.putfield 24, 3) := by decide +kernel
theorem dX8_failAt_10 : decode cX8_failAt 10 = .ok (.return_, 1) := by decide +kernel
theorem dX8_isOwnWordFrom_0 : decode cX8_isOwnWordFrom 0 = .ok (.iconst 0, 1) := by decide +kernel
theorem dX8_isOwnWordFrom_1 : decode cX8_isOwnWordFrom 1 = .ok (.istore_n 2, 1) := by decide +kernel
theorem dX8_isOwnWordFrom_2 : decode cX8_isOwnWordFrom 2 = .ok (.aload_n 0, 1) := by decide +kernel
theorem dX8_isOwnWordFrom_3 : decode cX8_isOwnWordFrom 3 = .ok (.getfield 15, 3) := by decide +kernel
theorem dX8_isOwnWordFrom_6 : decode cX8_isOwnWordFrom 6 = .ok (.iload_n 2, 1) := by decide +kernel
theorem dX8_isOwnWordFrom_7 : decode cX8_isOwnWordFrom 7 = .ok (.iadd, 1) := by decide +kernel
theorem dX8_isOwnWordFrom_8 : decode cX8_isOwnWordFrom 8 = .ok (.aload_n 0, 1) := by decide +kernel
theorem dX8_isOwnWordFrom_9 : decode cX8_isOwnWordFrom 9 = .ok (.getfield 18, 3) := by decide +kernel
theorem dX8_isOwnWordFrom_12 : decode cX8_isOwnWordFrom 12 = .ok (.if_icmp .ge 47, 3) := by decide +kernel
theorem dX8_isOwnWordFrom_15 : decode cX8_isOwnWordFrom 15 = .ok (.iload_n 1, 1) := by decide +kernel
theorem dX8_isOwnWordFrom_16 : decode cX8_isOwnWordFrom 16 = .ok (.iload_n 2, 1) := by decide +kernel
theorem dX8_isOwnWordFrom_17 : decode cX8_isOwnWordFrom 17 = .ok (.iadd, 1) := by decide +kernel
theorem dX8_isOwnWordFrom_18 : decode cX8_isOwnWordFrom 18 = .ok (.ldc 53, 2) := by decide +kernel
theorem dX8_isOwnWordFrom_20 : decode cX8_isOwnWordFrom 20 = .ok (.invokevirtual 43, 3) := by decide +kernel
theorem dX8_isOwnWordFrom_23 : decode cX8_isOwnWordFrom 23 = .ok (.if_icmp .ge 28, 3) := by decide +kernel
theorem dX8_isOwnWordFrom_26 : decode cX8_isOwnWordFrom 26 = .ok (.aload_n 0, 1) := by decide +kernel
theorem dX8_isOwnWordFrom_27 : decode cX8_isOwnWordFrom 27 = .ok (.getfield 27, 3) := by decide +kernel
theorem dX8_isOwnWordFrom_30 : decode cX8_isOwnWordFrom 30 = .ok (.getfield 39, 3) := by decide +kernel
theorem dX8_isOwnWordFrom_33 : decode cX8_isOwnWordFrom 33 = .ok (.aload_n 0, 1) := by decide +kernel
theorem dX8_isOwnWordFrom_34 : decode cX8_isOwnWordFrom 34 = .ok (.getfield 15, 3) := by decide +kernel
theorem dX8_isOwnWordFrom_37 : decode cX8_isOwnWordFrom 37 = .ok (.iload_n 2, 1) := by decide +kernel
theorem dX8_isOwnWordFrom_38 : decode cX8_isOwnWordFrom 38 = .ok (.iadd, 1) := by decide +kernel
theorem dX8_isOwnWordFrom_39 : decode cX8_isOwnWordFrom 39 = .ok (.iaload, 1) := by decide +kernel
theorem dX8_isOwnWordFrom_40 : decode cX8_isOwnWordFrom 40 = .ok (.ldc 53, 2) := by decide +kernel
theorem dX8_isOwnWordFrom_42 : decode cX8_isOwnWordFrom 42 = .ok (.iload_n 1, 1) := by decide +kernel
theorem dX8_isOwnWordFrom_43 : decode cX8_isOwnWordFrom 43 = .ok (.iload_n 2, 1) := by decide +kernel
theorem dX8_isOwnWordFrom_44 : decode cX8_isOwnWordFrom 44 = .ok (.iadd, 1) := by decide +kernel
theorem dX8_isOwnWordFrom_45 : decode cX8_isOwnWordFrom 45 = .ok (.invokevirtual 49, 3) := by decide +kernel
theorem dX8_isOwnWordFrom_48 : decode cX8_isOwnWordFrom 48 = .ok (.if_icmp .eq 5, 3) := by decide +kernel
theorem dX8_isOwnWordFrom_51 : decode cX8_isOwnWordFrom 51 = .ok (.iconst 0, 1) := by decide +kernel
theorem dX8_isOwnWordFrom_52 : decode cX8_isOwnWordFrom 52 = .ok (.ireturn, 1) := by decide +kernel
theorem dX8_isOwnWordFrom_53 : decode cX8_isOwnWordFrom 53 = .ok (.iinc 2 1, 3) := by decide +kernel
theorem dX8_isOwnWordFrom_56 : decode cX8_isOwnWordFrom 56 = .ok (.goto (-54), 3) := by decide +kernel
theorem dX8_isOwnWordFrom_59 : decode cX8_isOwnWordFrom 59 = .ok (.iconst 1, 1) := by decide +kernel
theorem dX8_isOwnWordFrom_60 : decode cX8_isOwnWordFrom 60 = .ok (.ireturn, 1) := by decide +kernel
theorem dX8_isOwnWord_0 : decode cX8_isOwnWord 0 = .ok (.iconst 0, 1) := by decide +kernel
theorem dX8_isOwnWord_1 : decode cX8_isOwnWord 1 = .ok (.istore_n 1, 1) := by decide +kernel
theorem dX8_isOwnWord_2 : decode cX8_isOwnWord 2 = .ok (.iconst 0, 1) := by decide +kernel
theorem dX8_isOwnWord_3 : decode cX8_isOwnWord 3 = .ok (.istore_n 2, 1) := by decide +kernel
theorem dX8_isOwnWord_4 : decode cX8_isOwnWord 4 = .ok (.iload_n 2, 1) := by decide +kernel
theorem dX8_isOwnWord_5 : decode cX8_isOwnWord 5 = .ok (.ldc 53, 2) := by decide +kernel
theorem dX8_isOwnWord_7 : decode cX8_isOwnWord 7 = .ok (.invokevirtual 43, 3) := by decide +kernel
theorem dX8_isOwnWord_10 : decode cX8_isOwnWord 10 = .ok (.if_icmp .gt 58, 3) := by decide +kernel
theorem dX8_isOwnWord_13 : decode cX8_isOwnWord 13 = .ok (.iload_n 2, 1) := by decide +kernel
theorem dX8_isOwnWord_14 : decode cX8_isOwnWord 14 = .ok (.ldc 53, 2) := by decide +kernel
theorem dX8_isOwnWord_16 : decode cX8_isOwnWord 16 = .ok (.invokevirtual 43, 3) := by decide +kernel
theorem dX8_isOwnWord_19 : decode cX8_isOwnWord 19 = .ok (.if_icmp .eq 14, 3) := by decide +kernel
theorem dX8_isOwnWord_22 : decode cX8_isOwnWord 22 = .ok (.ldc 53, 2) := by decide +kernel
theorem dX8_isOwnWord_24 : decode cX8_isOwnWord 24 = .ok (.iload_n 2, 1) := by decide +kernel
theorem dX8_isOwnWord_25 : decode cX8_isOwnWord 25 = .ok (.invokevirtual 49, 3) := by decide +kernel
theorem dX8_isOwnWord_28 : decode cX8_isOwnWord 28 = .ok (.bipush 32, 2) := by decide +kernel
theorem dX8_isOwnWord_30 : decode cX8_isOwnWord 30 = .ok (.if_icmp .ne 32, 3) := by decide +kernel
theorem dX8_isOwnWord_33 : decode cX8_isOwnWord 33 = .ok (.iload_n 2, 1) := by decide +kernel
theorem dX8_isOwnWord_34 : decode cX8_isOwnWord 34 = .ok (.iload_n 1, 1) := by decide +kernel
theorem dX8_isOwnWord_35 : decode cX8_isOwnWord 35 = .ok (.isub, 1) := by decide +kernel
theorem dX8_isOwnWord_36 : decode cX8_isOwnWord 36 = .ok (.aload_n 0, 1) := by decide +kernel
theorem dX8_isOwnWord_37 : decode cX8_isOwnWord 37 = .ok (.getfield 18, 3) := by decide +kernel
theorem dX8_isOwnWord_40 : decode cX8_isOwnWord 40 = .ok (.aload_n 0, 1) := by decide +kernel
theorem dX8_isOwnWord_41 : decode cX8_isOwnWord 41 = .ok (.getfield 15, 3) := by decide +kernel
theorem dX8_isOwnWord_44 : decode cX8_isOwnWord 44 = .ok (.isub, 1) := by decide +kernel
theorem dX8_isOwnWord_45 : decode cX8_isOwnWord 45 = .ok (.if_icmp .ne 13, 3) := by decide +kernel
theorem dX8_isOwnWord_48 : decode cX8_isOwnWord 48 = .ok (.aload_n 0, 1) := by decide +kernel
theorem dX8_isOwnWord_49 : decode cX8_isOwnWord 49 = .ok (.iload_n 1, 1) := by decide +kernel
theorem dX8_isOwnWord_50 : decode cX8_isOwnWord 50 = .ok (.invokevirtual 55, 3) := by decide +kernel
theorem dX8_isOwnWord_53 : decode cX8_isOwnWord 53 = .ok (.ifCond .eq 5, 3) := by decide +kernel
theorem dX8_isOwnWord_56 : decode cX8_isOwnWord 56 = .ok (.iconst 1, 1) := by decide +kernel
theorem dX8_isOwnWord_57 : decode cX8_isOwnWord 57 = .ok (.ireturn, 1) := by decide +kernel
theorem dX8_isOwnWord_58 : decode cX8_isOwnWord 58 = .ok (.iload_n 2, 1) := by decide +kernel
theorem dX8_isOwnWord_59 : decode cX8_isOwnWord 59 = .ok (.iconst 1, 1) := by decide +kernel
theorem dX8_isOwnWord_60 : decode cX8_isOwnWord 60 = .ok (.iadd, 1) := by decide +kernel
theorem dX8_isOwnWord_61 : decode cX8_isOwnWord 61 = .ok (.istore_n 1, 1) := by decide +kernel
theorem dX8_isOwnWord_62 : decode cX8_isOwnWord 62 = .ok (.iinc 2 1, 3) := by decide +kernel
theorem dX8_isOwnWord_65 : decode cX8_isOwnWord 65 = .ok (.goto (-61), 3) := by decide +kernel
theorem dX8_isOwnWord_68 : decode cX8_isOwnWord 68 = .ok (.iconst 0, 1) := by decide +kernel
theorem dX8_isOwnWord_69 : decode cX8_isOwnWord 69 = .ok (.ireturn, 1) := by decide +kernel
theorem dX8_seeName_0 : decode cX8_seeName 0 = .ok (.aload_n 0, 1) := by decide +kernel
theorem dX8_seeName_1 : decode cX8_seeName 1 = .ok (.getfield 11, 3) := by decide +kernel
theorem dX8_seeName_4 : decode cX8_seeName 4 = .ok (.iconst 1, 1) := by decide +kernel
theorem dX8_seeName_5 : decode cX8_seeName 5 = .ok (.if_icmp .eq 11, 3) := by decide +kernel
theorem dX8_seeName_8 : decode cX8_seeName 8 = .ok (.aload_n 0, 1) := by decide +kernel
theorem dX8_seeName_9 : decode cX8_seeName 9 = .ok (.iconst 1, 1) := by decide +kernel
theorem dX8_seeName_10 : decode cX8_seeName 10 = .ok (.invokevirtual 63, 3) := by decide +kernel
theorem dX8_seeName_13 : decode cX8_seeName 13 = .ok (.pop, 1) := by decide +kernel
theorem dX8_seeName_14 : decode cX8_seeName 14 = .ok (.iconst (-1), 1) := by decide +kernel
theorem dX8_seeName_15 : decode cX8_seeName 15 = .ok (.ireturn, 1) := by decide +kernel
theorem dX8_seeName_16 : decode cX8_seeName 16 = .ok (.aload_n 0, 1) := by decide +kernel
theorem dX8_seeName_17 : decode cX8_seeName 17 = .ok (.getfield 18, 3) := by decide +kernel
theorem dX8_seeName_20 : decode cX8_seeName 20 = .ok (.aload_n 0, 1) := by decide +kernel
theorem dX8_seeName_21 : decode cX8_seeName 21 = .ok (.getfield 15, 3) := by decide +kernel
theorem dX8_seeName_24 : decode cX8_seeName 24 = .ok (.isub, 1) := by decide +kernel
theorem dX8_seeName_25 : decode cX8_seeName 25 = .ok (.bipush 6, 2) := by decide +kernel
theorem dX8_seeName_27 : decode cX8_seeName 27 = .ok (.if_icmp .le 17, 3) := by decide +kernel
theorem dX8_seeName_30 : decode cX8_seeName 30 = .ok (.aload_n 0, 1) := by decide +kernel
theorem dX8_seeName_31 : decode cX8_seeName 31 = .ok (.iconst 1, 1) := by decide +kernel
theorem dX8_seeName_32 : decode cX8_seeName 32 = .ok (.aload_n 0, 1) := by decide +kernel
theorem dX8_seeName_33 : decode cX8_seeName 33 = .ok (.getfield 15, 3) := by decide +kernel
theorem dX8_seeName_36 : decode cX8_seeName 36 = .ok (.bipush 6, 2) := by decide +kernel
theorem dX8_seeName_38 : decode cX8_seeName 38 = .ok (.iadd, 1) := by decide +kernel
theorem dX8_seeName_39 : decode cX8_seeName 39 = .ok (.invokevirtual 70, 3) := by decide +kernel
theorem dX8_seeName_42 : decode cX8_seeName 42 = .ok (.iconst (-1), 1) := by decide +kernel
theorem dX8_seeName_43 : decode cX8_seeName 43 = .ok (.ireturn, 1) := by decide +kernel
theorem dX8_seeName_44 : decode cX8_seeName 44 = .ok (.aload_n 0, 1) := by decide +kernel
theorem dX8_seeName_45 : decode cX8_seeName 45 = .ok (.invokevirtual 77, 3) := by decide +kernel
theorem dX8_seeName_48 : decode cX8_seeName 48 = .ok (.ifCond .eq 11, 3) := by decide +kernel
theorem dX8_seeName_51 : decode cX8_seeName 51 = .ok (.aload_n 0, 1) := by decide +kernel
theorem dX8_seeName_52 : decode cX8_seeName 52 = .ok (.iconst 1, 1) := by decide +kernel
theorem dX8_seeName_53 : decode cX8_seeName 53 = .ok (.invokevirtual 63, 3) := by decide +kernel
theorem dX8_seeName_56 : decode cX8_seeName 56 = .ok (.pop, 1) := by decide +kernel
theorem dX8_seeName_57 : decode cX8_seeName 57 = .ok (.iconst (-1), 1) := by decide +kernel
theorem dX8_seeName_58 : decode cX8_seeName 58 = .ok (.ireturn, 1) := by decide +kernel
theorem dX8_seeName_59 : decode cX8_seeName 59 = .ok (.iconst 0, 1) := by decide +kernel
theorem dX8_seeName_60 : decode cX8_seeName 60 = .ok (.istore_n 1, 1) := by decide +kernel
theorem dX8_seeName_61 : decode cX8_seeName 61 = .ok (.aload_n 0, 1) := by decide +kernel
theorem dX8_seeName_62 : decode cX8_seeName 62 = .ok (.getfield 15, 3) := by decide +kernel
theorem dX8_seeName_65 : decode cX8_seeName 65 = .ok (.istore_n 2, 1) := by decide +kernel
theorem dX8_seeName_66 : decode cX8_seeName 66 = .ok (.iload_n 2, 1) := by decide +kernel
theorem dX8_seeName_67 : decode cX8_seeName 67 = .ok (.aload_n 0, 1) := by decide +kernel
theorem dX8_seeName_68 : decode cX8_seeName 68 = .ok (.getfield 15, 3) := by decide +kernel
theorem dX8_seeName_71 : decode cX8_seeName 71 = .ok (.bipush 6, 2) := by decide +kernel
theorem dX8_seeName_73 : decode cX8_seeName 73 = .ok (.iadd, 1) := by decide +kernel
theorem dX8_seeName_74 : decode cX8_seeName 74 = .ok (.if_icmp .ge 41, 3) := by decide +kernel
theorem dX8_seeName_77 : decode cX8_seeName 77 = .ok (.iload_n 1, 1) := by decide +kernel
theorem dX8_seeName_78 : decode cX8_seeName 78 = .ok (.bipush 27, 2) := by decide +kernel
theorem dX8_seeName_80 : decode cX8_seeName 80 = .ok (.imul, 1) := by decide +kernel
theorem dX8_seeName_81 : decode cX8_seeName 81 = .ok (.iload_n 2, 1) := by decide +kernel
theorem dX8_seeName_82 : decode cX8_seeName 82 = .ok (.aload_n 0, 1) := by decide +kernel
theorem dX8_seeName_83 : decode cX8_seeName 83 = .ok (.getfield 18, 3) := by decide +kernel
theorem dX8_seeName_86 : decode cX8_seeName 86 = .ok (.if_icmp .ge 20, 3) := by decide +kernel
theorem dX8_seeName_89 : decode cX8_seeName 89 = .ok (.aload_n 0, 1) := by decide +kernel
theorem dX8_seeName_90 : decode cX8_seeName 90 = .ok (.getfield 27, 3) := by decide +kernel
theorem dX8_seeName_93 : decode cX8_seeName 93 = .ok (.getfield 39, 3) := by decide +kernel
theorem dX8_seeName_96 : decode cX8_seeName 96 = .ok (.iload_n 2, 1) := by decide +kernel
theorem dX8_seeName_97 : decode cX8_seeName 97 = .ok (.iaload, 1) := by decide +kernel
theorem dX8_seeName_98 : decode cX8_seeName 98 = .ok (.bipush 97, 2) := by decide +kernel
theorem dX8_seeName_100 : decode cX8_seeName 100 = .ok (.isub, 1) := by decide +kernel
theorem dX8_seeName_101 : decode cX8_seeName 101 = .ok (.iconst 1, 1) := by decide +kernel
theorem dX8_seeName_102 : decode cX8_seeName 102 = .ok (.iadd, 1) := by decide +kernel
theorem dX8_seeName_103 : decode cX8_seeName 103 = .ok (.goto 4, 3) := by decide +kernel
theorem dX8_seeName_106 : decode cX8_seeName 106 = .ok (.iconst 0, 1) := by decide +kernel
theorem dX8_seeName_107 : decode cX8_seeName 107 = .ok (.iadd, 1) := by decide +kernel
theorem dX8_seeName_108 : decode cX8_seeName 108 = .ok (.istore_n 1, 1) := by decide +kernel
theorem dX8_seeName_109 : decode cX8_seeName 109 = .ok (.iinc 2 1, 3) := by decide +kernel
theorem dX8_seeName_112 : decode cX8_seeName 112 = .ok (.goto (-46), 3) := by decide +kernel
theorem dX8_seeName_115 : decode cX8_seeName 115 = .ok (.iload_n 1, 1) := by decide +kernel
theorem dX8_seeName_116 : decode cX8_seeName 116 = .ok (.ireturn, 1) := by decide +kernel
theorem dX7_hasName_0 : decode cX7_hasName 0 = .ok (.iconst 0, 1) := by decide +kernel
theorem dX7_hasName_1 : decode cX7_hasName 1 = .ok (.istore_n 2, 1) := by decide +kernel
theorem dX7_hasName_2 : decode cX7_hasName 2 = .ok (.iload_n 2, 1) := by decide +kernel
theorem dX7_hasName_3 : decode cX7_hasName 3 = .ok (.aload_n 0, 1) := by decide +kernel
theorem dX7_hasName_4 : decode cX7_hasName 4 = .ok (.getfield 18, 3) := by decide +kernel
theorem dX7_hasName_7 : decode cX7_hasName 7 = .ok (.if_icmp .ge 21, 3) := by decide +kernel
theorem dX7_hasName_10 : decode cX7_hasName 10 = .ok (.aload_n 0, 1) := by decide +kernel
theorem dX7_hasName_11 : decode cX7_hasName 11 = .ok (.getfield 34, 3) := by decide +kernel
theorem dX7_hasName_14 : decode cX7_hasName 14 = .ok (.iload_n 2, 1) := by decide +kernel
theorem dX7_hasName_15 : decode cX7_hasName 15 = .ok (.iaload, 1) := by decide +kernel
theorem dX7_hasName_16 : decode cX7_hasName 16 = .ok (.iload_n 1, 1) := by decide +kernel
theorem dX7_hasName_17 : decode cX7_hasName 17 = .ok (.if_icmp .ne 5, 3) := by decide +kernel
theorem dX7_hasName_20 : decode cX7_hasName 20 = .ok (.iconst 1, 1) := by decide +kernel
theorem dX7_hasName_21 : decode cX7_hasName 21 = .ok (.ireturn, 1) := by decide +kernel
theorem dX7_hasName_22 : decode cX7_hasName 22 = .ok (.iinc 2 1, 3) := by decide +kernel
theorem dX7_hasName_25 : decode cX7_hasName 25 = .ok (.goto (-23), 3) := by decide +kernel
theorem dX7_hasName_28 : decode cX7_hasName 28 = .ok (.iconst 0, 1) := by decide +kernel
theorem dX7_hasName_29 : decode cX7_hasName 29 = .ok (.ireturn, 1) := by decide +kernel
theorem dX8_isWord_0 : decode cX8_isWord 0 = .ok (.aload_n 0, 1) := by decide +kernel
theorem dX8_isWord_1 : decode cX8_isWord 1 = .ok (.getfield 11, 3) := by decide +kernel
theorem dX8_isWord_4 : decode cX8_isWord 4 = .ok (.iconst 1, 1) := by decide +kernel
theorem dX8_isWord_5 : decode cX8_isWord 5 = .ok (.if_icmp .ne 19, 3) := by decide +kernel
theorem dX8_isWord_8 : decode cX8_isWord 8 = .ok (.aload_n 0, 1) := by decide +kernel
theorem dX8_isWord_9 : decode cX8_isWord 9 = .ok (.getfield 18, 3) := by decide +kernel
theorem dX8_isWord_12 : decode cX8_isWord 12 = .ok (.aload_n 0, 1) := by decide +kernel
theorem dX8_isWord_13 : decode cX8_isWord 13 = .ok (.getfield 15, 3) := by decide +kernel
theorem dX8_isWord_16 : decode cX8_isWord 16 = .ok (.isub, 1) := by decide +kernel
theorem dX8_isWord_17 : decode cX8_isWord 17 = .ok (.aload_n 1, 1) := by decide +kernel
theorem dX8_isWord_18 : decode cX8_isWord 18 = .ok (.invokevirtual 43, 3) := by decide +kernel
theorem dX8_isWord_21 : decode cX8_isWord 21 = .ok (.if_icmp .eq 5, 3) := by decide +kernel
theorem dX8_isWord_24 : decode cX8_isWord 24 = .ok (.iconst 0, 1) := by decide +kernel
theorem dX8_isWord_25 : decode cX8_isWord 25 = .ok (.ireturn, 1) := by decide +kernel
theorem dX8_isWord_26 : decode cX8_isWord 26 = .ok (.iconst 0, 1) := by decide +kernel
theorem dX8_isWord_27 : decode cX8_isWord 27 = .ok (.istore_n 2, 1) := by decide +kernel
theorem dX8_isWord_28 : decode cX8_isWord 28 = .ok (.iload_n 2, 1) := by decide +kernel
theorem dX8_isWord_29 : decode cX8_isWord 29 = .ok (.aload_n 1, 1) := by decide +kernel
theorem dX8_isWord_30 : decode cX8_isWord 30 = .ok (.invokevirtual 43, 3) := by decide +kernel
theorem dX8_isWord_33 : decode cX8_isWord 33 = .ok (.if_icmp .ge 33, 3) := by decide +kernel
theorem dX8_isWord_36 : decode cX8_isWord 36 = .ok (.aload_n 0, 1) := by decide +kernel
theorem dX8_isWord_37 : decode cX8_isWord 37 = .ok (.getfield 27, 3) := by decide +kernel
theorem dX8_isWord_40 : decode cX8_isWord 40 = .ok (.getfield 39, 3) := by decide +kernel
theorem dX8_isWord_43 : decode cX8_isWord 43 = .ok (.aload_n 0, 1) := by decide +kernel
theorem dX8_isWord_44 : decode cX8_isWord 44 = .ok (.getfield 15, 3) := by decide +kernel
theorem dX8_isWord_47 : decode cX8_isWord 47 = .ok (.iload_n 2, 1) := by decide +kernel
theorem dX8_isWord_48 : decode cX8_isWord 48 = .ok (.iadd, 1) := by decide +kernel
theorem dX8_isWord_49 : decode cX8_isWord 49 = .ok (.iaload, 1) := by decide +kernel
theorem dX8_isWord_50 : decode cX8_isWord 50 = .ok (.aload_n 1, 1) := by decide +kernel
theorem dX8_isWord_51 : decode cX8_isWord 51 = .ok (.iload_n 2, 1) := by decide +kernel
theorem dX8_isWord_52 : decode cX8_isWord 52 = .ok (.invokevirtual 49, 3) := by decide +kernel
theorem dX8_isWord_55 : decode cX8_isWord 55 = .ok (.if_icmp .eq 5, 3) := by decide +kernel
theorem dX8_isWord_58 : decode cX8_isWord 58 = .ok (.iconst 0, 1) := by decide +kernel
theorem dX8_isWord_59 : decode cX8_isWord 59 = .ok (.ireturn, 1) := by decide +kernel
theorem dX8_isWord_60 : decode cX8_isWord 60 = .ok (.iinc 2 1, 3) := by decide +kernel
theorem dX8_isWord_63 : decode cX8_isWord 63 = .ok (.goto (-35), 3) := by decide +kernel
theorem dX8_isWord_66 : decode cX8_isWord 66 = .ok (.iconst 1, 1) := by decide +kernel
theorem dX8_isWord_67 : decode cX8_isWord 67 = .ok (.ireturn, 1) := by decide +kernel
theorem dX8_seeNumber_0 : decode cX8_seeNumber 0 = .ok (.aload_n 0, 1) := by decide +kernel
theorem dX8_seeNumber_1 : decode cX8_seeNumber 1 = .ok (.getfield 11, 3) := by decide +kernel
theorem dX8_seeNumber_4 : decode cX8_seeNumber 4 = .ok (.iconst 2, 1) := by decide +kernel
theorem dX8_seeNumber_5 : decode cX8_seeNumber 5 = .ok (.if_icmp .eq 11, 3) := by decide +kernel
theorem dX8_seeNumber_8 : decode cX8_seeNumber 8 = .ok (.aload_n 0, 1) := by decide +kernel
theorem dX8_seeNumber_9 : decode cX8_seeNumber 9 = .ok (.iconst 1, 1) := by decide +kernel
theorem dX8_seeNumber_10 : decode cX8_seeNumber 10 = .ok (.invokevirtual 63, 3) := by decide +kernel
theorem dX8_seeNumber_13 : decode cX8_seeNumber 13 = .ok (.pop, 1) := by decide +kernel
theorem dX8_seeNumber_14 : decode cX8_seeNumber 14 = .ok (.iconst (-1), 1) := by decide +kernel
theorem dX8_seeNumber_15 : decode cX8_seeNumber 15 = .ok (.ireturn, 1) := by decide +kernel
theorem dX8_seeNumber_16 : decode cX8_seeNumber 16 = .ok (.aload_n 0, 1) := by decide +kernel
theorem dX8_seeNumber_17 : decode cX8_seeNumber 17 = .ok (.getfield 18, 3) := by decide +kernel
theorem dX8_seeNumber_20 : decode cX8_seeNumber 20 = .ok (.aload_n 0, 1) := by decide +kernel
theorem dX8_seeNumber_21 : decode cX8_seeNumber 21 = .ok (.getfield 15, 3) := by decide +kernel
theorem dX8_seeNumber_24 : decode cX8_seeNumber 24 = .ok (.isub, 1) := by decide +kernel
theorem dX8_seeNumber_25 : decode cX8_seeNumber 25 = .ok (.iconst 4, 1) := by decide +kernel
theorem dX8_seeNumber_26 : decode cX8_seeNumber 26 = .ok (.if_icmp .le 16, 3) := by decide +kernel
theorem dX8_seeNumber_29 : decode cX8_seeNumber 29 = .ok (.aload_n 0, 1) := by decide +kernel
theorem dX8_seeNumber_30 : decode cX8_seeNumber 30 = .ok (.iconst 1, 1) := by decide +kernel
theorem dX8_seeNumber_31 : decode cX8_seeNumber 31 = .ok (.aload_n 0, 1) := by decide +kernel
theorem dX8_seeNumber_32 : decode cX8_seeNumber 32 = .ok (.getfield 15, 3) := by decide +kernel
theorem dX8_seeNumber_35 : decode cX8_seeNumber 35 = .ok (.iconst 4, 1) := by decide +kernel
theorem dX8_seeNumber_36 : decode cX8_seeNumber 36 = .ok (.iadd, 1) := by decide +kernel
theorem dX8_seeNumber_37 : decode cX8_seeNumber 37 = .ok (.invokevirtual 70, 3) := by decide +kernel
theorem dX8_seeNumber_40 : decode cX8_seeNumber 40 = .ok (.iconst (-1), 1) := by decide +kernel
theorem dX8_seeNumber_41 : decode cX8_seeNumber 41 = .ok (.ireturn, 1) := by decide +kernel
theorem dX8_seeNumber_42 : decode cX8_seeNumber 42 = .ok (.iconst 0, 1) := by decide +kernel
theorem dX8_seeNumber_43 : decode cX8_seeNumber 43 = .ok (.istore_n 1, 1) := by decide +kernel
theorem dX8_seeNumber_44 : decode cX8_seeNumber 44 = .ok (.aload_n 0, 1) := by decide +kernel
theorem dX8_seeNumber_45 : decode cX8_seeNumber 45 = .ok (.getfield 15, 3) := by decide +kernel
theorem dX8_seeNumber_48 : decode cX8_seeNumber 48 = .ok (.istore_n 2, 1) := by decide +kernel
theorem dX8_seeNumber_49 : decode cX8_seeNumber 49 = .ok (.iload_n 2, 1) := by decide +kernel
theorem dX8_seeNumber_50 : decode cX8_seeNumber 50 = .ok (.aload_n 0, 1) := by decide +kernel
theorem dX8_seeNumber_51 : decode cX8_seeNumber 51 = .ok (.getfield 18, 3) := by decide +kernel
theorem dX8_seeNumber_54 : decode cX8_seeNumber 54 = .ok (.if_icmp .ge 27, 3) := by decide +kernel
theorem dX8_seeNumber_57 : decode cX8_seeNumber 57 = .ok (.iload_n 1, 1) := by decide +kernel
theorem dX8_seeNumber_58 : decode cX8_seeNumber 58 = .ok (.bipush 10, 2) := by decide +kernel
theorem dX8_seeNumber_60 : decode cX8_seeNumber 60 = .ok (.imul, 1) := by decide +kernel
theorem dX8_seeNumber_61 : decode cX8_seeNumber 61 = .ok (.aload_n 0, 1) := by decide +kernel
theorem dX8_seeNumber_62 : decode cX8_seeNumber 62 = .ok (.getfield 27, 3) := by decide +kernel
theorem dX8_seeNumber_65 : decode cX8_seeNumber 65 = .ok (.getfield 39, 3) := by decide +kernel
theorem dX8_seeNumber_68 : decode cX8_seeNumber 68 = .ok (.iload_n 2, 1) := by decide +kernel
theorem dX8_seeNumber_69 : decode cX8_seeNumber 69 = .ok (.iaload, 1) := by decide +kernel
theorem dX8_seeNumber_70 : decode cX8_seeNumber 70 = .ok (.iadd, 1) := by decide +kernel
theorem dX8_seeNumber_71 : decode cX8_seeNumber 71 = .ok (.bipush 48, 2) := by decide +kernel
theorem dX8_seeNumber_73 : decode cX8_seeNumber 73 = .ok (.isub, 1) := by decide +kernel
theorem dX8_seeNumber_74 : decode cX8_seeNumber 74 = .ok (.istore_n 1, 1) := by decide +kernel
theorem dX8_seeNumber_75 : decode cX8_seeNumber 75 = .ok (.iinc 2 1, 3) := by decide +kernel
theorem dX8_seeNumber_78 : decode cX8_seeNumber 78 = .ok (.goto (-29), 3) := by decide +kernel
theorem dX8_seeNumber_81 : decode cX8_seeNumber 81 = .ok (.iload_n 1, 1) := by decide +kernel
theorem dX8_seeNumber_82 : decode cX8_seeNumber 82 = .ok (.ireturn, 1) := by decide +kernel
theorem dX8_takeNumber_0 : decode cX8_takeNumber 0 = .ok (.aload_n 0, 1) := by decide +kernel
theorem dX8_takeNumber_1 : decode cX8_takeNumber 1 = .ok (.invokevirtual 74, 3) := by decide +kernel
theorem dX8_takeNumber_4 : decode cX8_takeNumber 4 = .ok (.istore_n 3, 1) := by decide +kernel
theorem dX8_takeNumber_5 : decode cX8_takeNumber 5 = .ok (.iload_n 3, 1) := by decide +kernel
theorem dX8_takeNumber_6 : decode cX8_takeNumber 6 = .ok (.iconst (-1), 1) := by decide +kernel
theorem dX8_takeNumber_7 : decode cX8_takeNumber 7 = .ok (.if_icmp .ne 5, 3) := by decide +kernel
theorem dX8_takeNumber_10 : decode cX8_takeNumber 10 = .ok (.iconst (-1), 1) := by decide +kernel
theorem dX8_takeNumber_11 : decode cX8_takeNumber 11 = .ok (.ireturn, 1) := by decide +kernel
theorem dX8_takeNumber_12 : decode cX8_takeNumber 12 = .ok (.iload_n 3, 1) := by decide +kernel
theorem dX8_takeNumber_13 : decode cX8_takeNumber 13 = .ok (.iload_n 1, 1) := by decide +kernel
theorem dX8_takeNumber_14 : decode cX8_takeNumber 14 = .ok (.if_icmp .lt 8, 3) := by decide +kernel
theorem dX8_takeNumber_17 : decode cX8_takeNumber 17 = .ok (.iload_n 3, 1) := by decide +kernel
theorem dX8_takeNumber_18 : decode cX8_takeNumber 18 = .ok (.iload_n 2, 1) := by decide +kernel
theorem dX8_takeNumber_19 : decode cX8_takeNumber 19 = .ok (.if_icmp .le 11, 3) := by decide +kernel
theorem dX8_takeNumber_22 : decode cX8_takeNumber 22 = .ok (.aload_n 0, 1) := by decide +kernel
theorem dX8_takeNumber_23 : decode cX8_takeNumber 23 = .ok (.iconst 2, 1) := by decide +kernel
theorem dX8_takeNumber_24 : decode cX8_takeNumber 24 = .ok (.invokevirtual 63, 3) := by decide +kernel
theorem dX8_takeNumber_27 : decode cX8_takeNumber 27 = .ok (.pop, 1) := by decide +kernel
theorem dX8_takeNumber_28 : decode cX8_takeNumber 28 = .ok (.iconst (-1), 1) := by decide +kernel
theorem dX8_takeNumber_29 : decode cX8_takeNumber 29 = .ok (.ireturn, 1) := by decide +kernel
theorem dX8_takeNumber_30 : decode cX8_takeNumber 30 = .ok (.aload_n 0, 1) := by decide +kernel
theorem dX8_takeNumber_31 : decode cX8_takeNumber 31 = .ok (.invokevirtual 31, 3) := by decide +kernel
theorem dX8_takeNumber_34 : decode cX8_takeNumber 34 = .ok (.iload_n 3, 1) := by decide +kernel
theorem dX8_takeNumber_35 : decode cX8_takeNumber 35 = .ok (.ireturn, 1) := by decide +kernel
theorem dX4_numberBehind_0 : decode cX4_numberBehind 0 = .ok (.aload_n 0, 1) := by decide +kernel
theorem dX4_numberBehind_1 : decode cX4_numberBehind 1 = .ok (.getfield 18, 3) := by decide +kernel
theorem dX4_numberBehind_4 : decode cX4_numberBehind 4 = .ok (.invokevirtual 117, 3) := by decide +kernel
theorem dX4_numberBehind_7 : decode cX4_numberBehind 7 = .ok (.aload_n 0, 1) := by decide +kernel
theorem dX4_numberBehind_8 : decode cX4_numberBehind 8 = .ok (.getfield 18, 3) := by decide +kernel
theorem dX4_numberBehind_11 : decode cX4_numberBehind 11 = .ok (.iload_n 1, 1) := by decide +kernel
theorem dX4_numberBehind_12 : decode cX4_numberBehind 12 = .ok (.iload_n 2, 1) := by decide +kernel
theorem dX4_numberBehind_13 : decode cX4_numberBehind 13 = .ok (.invokevirtual 120, 3) := by decide +kernel
theorem dX4_numberBehind_16 : decode cX4_numberBehind 16 = .ok (.ireturn, 1) := by decide +kernel
theorem dX4_addPerson_0 : decode cX4_addPerson 0 = .ok (.aload_n 0, 1) := by decide +kernel
theorem dX4_addPerson_1 : decode cX4_addPerson 1 = .ok (.getfield 12, 3) := by decide +kernel
theorem dX4_addPerson_4 : decode cX4_addPerson 4 = .ok (.getfield 123, 3) := by decide +kernel
theorem dX4_addPerson_7 : decode cX4_addPerson 7 = .ok (.istore_n 1, 1) := by decide +kernel
theorem dX4_addPerson_8 : decode cX4_addPerson 8 = .ok (.iload_n 1, 1) := by decide +kernel
theorem dX4_addPerson_9 : decode cX4_addPerson 9 = .ok (.bipush 6, 2) := by decide +kernel
theorem dX4_addPerson_11 : decode cX4_addPerson 11 = .ok (.if_icmp .lt 12, 3) := by decide +kernel
theorem dX4_addPerson_14 : decode cX4_addPerson 14 = .ok (.aload_n 0, 1) := by decide +kernel
theorem dX4_addPerson_15 : decode cX4_addPerson 15 = .ok (.getfield 18, 3) := by decide +kernel
theorem dX4_addPerson_18 : decode cX4_addPerson 18 = .ok (.iconst 5, 1) := by decide +kernel
theorem dX4_addPerson_19 : decode cX4_addPerson 19 = .ok (.invokevirtual 38, 3) := by decide +kernel
theorem dX4_addPerson_22 : decode cX4_addPerson 22 = .ok (.ireturn, 1) := by decide +kernel
theorem dX4_addPerson_23 : decode cX4_addPerson 23 = .ok (.aload_n 0, 1) := by decide +kernel
theorem dX4_addPerson_24 : decode cX4_addPerson 24 = .ok (.getfield 18, 3) := by decide +kernel
theorem dX4_addPerson_27 : decode cX4_addPerson 27 = .ok (.invokevirtual 117, 3) := by decide +kernel
theorem dX4_addPerson_30 : decode cX4_addPerson 30 = .ok (.aload_n 0, 1) := by decide +kernel
theorem dX4_addPerson_31 : decode cX4_addPerson 31 = .ok (.getfield 18, 3) := by decide +kernel
theorem dX4_addPerson_34 : decode cX4_addPerson 34 = .ok (.invokevirtual 126, 3) := by decide +kernel
theorem dX4_addPerson_37 : decode cX4_addPerson 37 = .ok (.istore_n 2, 1) := by decide +kernel
theorem dX4_addPerson_38 : decode cX4_addPerson 38 = .ok (.iload_n 2, 1) := by decide +kernel
theorem dX4_addPerson_39 : decode cX4_addPerson 39 = .ok (.iconst (-1), 1) := by decide +kernel
theorem dX4_addPerson_40 : decode cX4_addPerson 40 = .ok (.if_icmp .ne 5, 3) := by decide +kernel
theorem dX4_addPerson_43 : decode cX4_addPerson 43 = .ok (.iconst 0, 1) := by decide +kernel
theorem dX4_addPerson_44 : decode cX4_addPerson 44 = .ok (.ireturn, 1) := by decide +kernel
theorem dX4_addPerson_45 : decode cX4_addPerson 45 = .ok (.aload_n 0, 1) := by decide +kernel
theorem dX4_addPerson_46 : decode cX4_addPerson 46 = .ok (.getfield 12, 3) := by decide +kernel
theorem dX4_addPerson_49 : decode cX4_addPerson 49 = .ok (.iload_n 2, 1) := by decide +kernel
theorem dX4_addPerson_50 : decode cX4_addPerson 50 = .ok (.invokevirtual 129, 3) := by decide +kernel
theorem dX4_addPerson_53 : decode cX4_addPerson 53 = .ok (.ifCond .eq 12, 3) := by decide +kernel
theorem dX4_addPerson_56 : decode cX4_addPerson 56 = .ok (.aload_n 0, 1) := by decide +kernel
theorem dX4_addPerson_57 : decode cX4_addPerson 57 = .ok (.getfield 18, 3) := by decide +kernel
theorem dX4_addPerson_60 : decode cX4_addPerson 60 = .ok (.iconst 3, 1) := by decide +kernel
theorem dX4_addPerson_61 : decode cX4_addPerson 61 = .ok (.invokevirtual 38, 3) := by decide +kernel
theorem dX4_addPerson_64 : decode cX4_addPerson 64 = .ok (.ireturn, 1) := by decide +kernel
theorem dX4_addPerson_65 : decode cX4_addPerson 65 = .ok (.aload_n 0, 1) := by decide +kernel
theorem dX4_addPerson_66 : decode cX4_addPerson 66 = .ok (.getfield 18, 3) := by decide +kernel
theorem dX4_addPerson_69 : decode cX4_addPerson 69 = .ok (.invokevirtual 117, 3) := by decide +kernel
theorem dX4_addPerson_72 : decode cX4_addPerson 72 = .ok (.aload_n 0, 1) := by decide +kernel
theorem dX4_addPerson_73 : decode cX4_addPerson 73 = .ok (.getfield 18, 3) := by decide +kernel
theorem dX4_addPerson_76 : decode cX4_addPerson 76 = .ok (.ldc 132, 2) := by decide +kernel
theorem dX4_addPerson_78 : decode cX4_addPerson 78 = .ok (.invokevirtual 52, 3) := by decide +kernel
theorem dX4_addPerson_81 : decode cX4_addPerson 81 = .ok (.ifCond .ne 12, 3) := by decide +kernel
theorem dX4_addPerson_84 : decode cX4_addPerson 84 = .ok (.aload_n 0, 1) := by decide +kernel
theorem dX4_addPerson_85 : decode cX4_addPerson 85 = .ok (.getfield 18, 3) := by decide +kernel
theorem dX4_addPerson_88 : decode cX4_addPerson 88 = .ok (.iconst 1, 1) := by decide +kernel
theorem dX4_addPerson_89 : decode cX4_addPerson 89 = .ok (.invokevirtual 38, 3) := by decide +kernel
theorem dX4_addPerson_92 : decode cX4_addPerson 92 = .ok (.ireturn, 1) := by decide +kernel
theorem dX4_addPerson_93 : decode cX4_addPerson 93 = .ok (.aload_n 0, 1) := by decide +kernel
theorem dX4_addPerson_94 : decode cX4_addPerson 94 = .ok (.iconst 1, 1) := by decide +kernel
theorem dX4_addPerson_95 : decode cX4_addPerson 95 = .ok (.bipush 24, 2) := by decide +kernel
theorem dX4_addPerson_97 : decode cX4_addPerson 97 = .ok (.invokevirtual 56, 3) := by decide +kernel
theorem dX4_addPerson_100 : decode cX4_addPerson 100 = .ok (.istore_n 3, 1) := by decide +kernel
theorem dX4_addPerson_101 : decode cX4_addPerson 101 = .ok (.iload_n 3, 1) := by decide +kernel
theorem dX4_addPerson_102 : decode cX4_addPerson 102 = .ok (.iconst (-1), 1) := by decide +kernel
theorem dX4_addPerson_103 : decode cX4_addPerson 103 = .ok (.if_icmp .ne 5, 3) := by decide +kernel
theorem dX4_addPerson_106 : decode cX4_addPerson 106 = .ok (.iconst 0, 1) := by decide +kernel
theorem dX4_addPerson_107 : decode cX4_addPerson 107 = .ok (.ireturn, 1) := by decide +kernel
theorem dX4_addPerson_108 : decode cX4_addPerson 108 = .ok (.aload_n 0, 1) := by decide +kernel
theorem dX4_addPerson_109 : decode cX4_addPerson 109 = .ok (.getfield 18, 3) := by decide +kernel
theorem dX4_addPerson_112 : decode cX4_addPerson 112 = .ok (.ldc 134, 2) := by decide +kernel
theorem dX4_addPerson_114 : decode cX4_addPerson 114 = .ok (.invokevirtual 52, 3) := by decide +kernel
theorem dX4_addPerson_117 : decode cX4_addPerson 117 = .ok (.ifCond .ne 12, 3) := by decide +kernel
theorem dX4_addPerson_120 : decode cX4_addPerson 120 = .ok (.aload_n 0, 1) := by decide +kernel
theorem dX4_addPerson_121 : decode cX4_addPerson 121 = .ok (.getfield 18, 3) := by decide +kernel
theorem dX4_addPerson_124 : decode cX4_addPerson 124 = .ok (.iconst 1, 1) := by decide +kernel
theorem dX4_addPerson_125 : decode cX4_addPerson 125 = .ok (.invokevirtual 38, 3) := by decide +kernel
theorem dX4_addPerson_128 : decode cX4_addPerson 128 = .ok (.ireturn, 1) := by decide +kernel
theorem dX4_addPerson_129 : decode cX4_addPerson 129 = .ok (.aload_n 0, 1) := by decide +kernel
theorem dX4_addPerson_130 : decode cX4_addPerson 130 = .ok (.iconst 1, 1) := by decide +kernel
theorem dX4_addPerson_131 : decode cX4_addPerson 131 = .ok (.bipush 24, 2) := by decide +kernel
theorem dX4_addPerson_133 : decode cX4_addPerson 133 = .ok (.invokevirtual 56, 3) := by decide +kernel
theorem dX4_addPerson_136 : decode cX4_addPerson 136 = .ok (.istore 4, 2) := by decide +kernel
theorem dX4_addPerson_138 : decode cX4_addPerson 138 = .ok (.aload_n 0, 1) := by decide +kernel
theorem dX4_addPerson_139 : decode cX4_addPerson 139 = .ok (.getfield 12, 3) := by decide +kernel
theorem dX4_addPerson_142 : decode cX4_addPerson 142 = .ok (.getfield 136, 3) := by decide +kernel
theorem dX4_addPerson_145 : decode cX4_addPerson 145 = .ok (.iload_n 1, 1) := by decide +kernel
theorem dX4_addPerson_146 : decode cX4_addPerson 146 = .ok (.iload_n 2, 1) := by decide +kernel
theorem dX4_addPerson_147 : decode cX4_addPerson 147 = .ok (.iastore, 1) := by decide +kernel
theorem dX4_addPerson_148 : decode cX4_addPerson 148 = .ok (.aload_n 0, 1) := by decide +kernel
theorem dX4_addPerson_149 : decode cX4_addPerson 149 = .ok (.getfield 12, 3) := by decide +kernel
theorem dX4_addPerson_152 : decode cX4_addPerson 152 = .ok (.getfield 140, 3) := by decide +kernel
theorem dX4_addPerson_155 : decode cX4_addPerson 155 = .ok (.iload_n 1, 1) := by decide +kernel
theorem dX4_addPerson_156 : decode cX4_addPerson 156 = .ok (.iload_n 3, 1) := by decide +kernel
theorem dX4_addPerson_157 : decode cX4_addPerson 157 = .ok (.iastore, 1) := by decide +kernel
theorem dX4_addPerson_158 : decode cX4_addPerson 158 = .ok (.aload_n 0, 1) := by decide +kernel
theorem dX4_addPerson_159 : decode cX4_addPerson 159 = .ok (.getfield 12, 3) := by decide +kernel
theorem dX4_addPerson_162 : decode cX4_addPerson 162 = .ok (.getfield 143, 3) := by decide +kernel
theorem dX4_addPerson_165 : decode cX4_addPerson 165 = .ok (.iload_n 1, 1) := by decide +kernel
theorem dX4_addPerson_166 : decode cX4_addPerson 166 = .ok (.iload 4, 2) := by decide +kernel
theorem dX4_addPerson_168 : decode cX4_addPerson 168 = .ok (.iastore, 1) := by decide +kernel
theorem dX4_addPerson_169 : decode cX4_addPerson 169 = .ok (.aload_n 0, 1) := by decide +kernel
theorem dX4_addPerson_170 : decode cX4_addPerson 170 = .ok (.getfield 12, 3) := by decide +kernel
theorem dX4_addPerson_173 : decode cX4_addPerson 173 = .ok (.iload_n 1, 1) := by decide +kernel
theorem dX4_addPerson_174 : decode cX4_addPerson 174 = .ok (.iconst 1, 1) := by decide +kernel
theorem dX4_addPerson_175 : decode cX4_addPerson 175 = .ok (.iadd, 1) := by decide +kernel
theorem dX4_addPerson_176 : decode cX4_addPerson 176 = .ok (.putfield 123, 3) := by decide +kernel
theorem dX4_addPerson_179 : decode cX4_addPerson 179 = .ok (.iload 4, 2) := by decide +kernel
theorem dX4_addPerson_181 : decode cX4_addPerson 181 = .ok (.iconst (-1), 1) := by decide +kernel
theorem dX4_addPerson_182 : decode cX4_addPerson 182 = .ok (.if_icmp .eq 7, 3) := by decide +kernel
theorem dX4_addPerson_185 : decode cX4_addPerson 185 = .ok (.iconst 1, 1) := by decide +kernel
theorem dX4_addPerson_186 : decode cX4_addPerson 186 = .ok (.goto 4, 3) := by decide +kernel
theorem dX4_addPerson_189 : decode cX4_addPerson 189 = .ok (.iconst 0, 1) := by decide +kernel
theorem dX4_addPerson_190 : decode cX4_addPerson 190 = .ok (.ireturn, 1) := by decide +kernel
theorem dX8_takeWord_0 : decode cX8_takeWord 0 = .ok (.aload_n 0, 1) := by decide +kernel
theorem dX8_takeWord_1 : decode cX8_takeWord 1 = .ok (.aload_n 1, 1) := by decide +kernel
theorem dX8_takeWord_2 : decode cX8_takeWord 2 = .ok (.invokevirtual 66, 3) := by decide +kernel
theorem dX8_takeWord_5 : decode cX8_takeWord 5 = .ok (.ifCond .ne 9, 3) := by decide +kernel
theorem dX8_takeWord_8 : decode cX8_takeWord 8 = .ok (.aload_n 0, 1) := by decide +kernel
theorem dX8_takeWord_9 : decode cX8_takeWord 9 = .ok (.iconst 1, 1) := by decide +kernel
theorem dX8_takeWord_10 : decode cX8_takeWord 10 = .ok (.invokevirtual 63, 3) := by decide +kernel
theorem dX8_takeWord_13 : decode cX8_takeWord 13 = .ok (.ireturn, 1) := by decide +kernel
theorem dX8_takeWord_14 : decode cX8_takeWord 14 = .ok (.aload_n 0, 1) := by decide +kernel
theorem dX8_takeWord_15 : decode cX8_takeWord 15 = .ok (.invokevirtual 31, 3) := by decide +kernel
theorem dX8_takeWord_18 : decode cX8_takeWord 18 = .ok (.iconst 1, 1) := by decide +kernel
theorem dX8_takeWord_19 : decode cX8_takeWord 19 = .ok (.ireturn, 1) := by decide +kernel
theorem dX4_addPieces_0 : decode cX4_addPieces 0 = .ok (.aload_n 0, 1) := by decide +kernel
theorem dX4_addPieces_1 : decode cX4_addPieces 1 = .ok (.iconst 1, 1) := by decide +kernel
theorem dX4_addPieces_2 : decode cX4_addPieces 2 = .ok (.bipush 99, 2) := by decide +kernel
theorem dX4_addPieces_4 : decode cX4_addPieces 4 = .ok (.invokevirtual 56, 3) := by decide +kernel
theorem dX4_addPieces_7 : decode cX4_addPieces 7 = .ok (.istore_n 1, 1) := by decide +kernel
theorem dX4_addPieces_8 : decode cX4_addPieces 8 = .ok (.iload_n 1, 1) := by decide +kernel
theorem dX4_addPieces_9 : decode cX4_addPieces 9 = .ok (.iconst (-1), 1) := by decide +kernel
theorem dX4_addPieces_10 : decode cX4_addPieces 10 = .ok (.if_icmp .eq 15, 3) := by decide +kernel
theorem dX4_addPieces_13 : decode cX4_addPieces 13 = .ok (.aload_n 0, 1) := by decide +kernel
theorem dX4_addPieces_14 : decode cX4_addPieces 14 = .ok (.getfield 18, 3) := by decide +kernel
theorem dX4_addPieces_17 : decode cX4_addPieces 17 = .ok (.ldc 146, 2) := by decide +kernel
theorem dX4_addPieces_19 : decode cX4_addPieces 19 = .ok (.invokevirtual 148, 3) := by decide +kernel
theorem dX4_addPieces_22 : decode cX4_addPieces 22 = .ok (.ifCond .ne 5, 3) := by decide +kernel
theorem dX4_addPieces_25 : decode cX4_addPieces 25 = .ok (.iconst 0, 1) := by decide +kernel
theorem dX4_addPieces_26 : decode cX4_addPieces 26 = .ok (.ireturn, 1) := by decide +kernel
theorem dX4_addPieces_27 : decode cX4_addPieces 27 = .ok (.aload_n 0, 1) := by decide +kernel
theorem dX4_addPieces_28 : decode cX4_addPieces 28 = .ok (.getfield 18, 3) := by decide +kernel
theorem dX4_addPieces_31 : decode cX4_addPieces 31 = .ok (.invokevirtual 151, 3) := by decide +kernel
theorem dX4_addPieces_34 : decode cX4_addPieces 34 = .ok (.istore_n 2, 1) := by decide +kernel
theorem dX4_addPieces_35 : decode cX4_addPieces 35 = .ok (.iload_n 2, 1) := by decide +kernel
theorem dX4_addPieces_36 : decode cX4_addPieces 36 = .ok (.iconst (-1), 1) := by decide +kernel
theorem dX4_addPieces_37 : decode cX4_addPieces 37 = .ok (.if_icmp .ne 5, 3) := by decide +kernel
theorem dX4_addPieces_40 : decode cX4_addPieces 40 = .ok (.iconst 0, 1) := by decide +kernel
theorem dX4_addPieces_41 : decode cX4_addPieces 41 = .ok (.ireturn, 1) := by decide +kernel
theorem dX4_addPieces_42 : decode cX4_addPieces 42 = .ok (.iload_n 2, 1) := by decide +kernel
theorem dX4_addPieces_43 : decode cX4_addPieces 43 = .ok (.iconst 1, 1) := by decide +kernel
theorem dX4_addPieces_44 : decode cX4_addPieces 44 = .ok (.if_icmp .lt 32, 3) := by decide +kernel
theorem dX4_addPieces_47 : decode cX4_addPieces 47 = .ok (.iload_n 2, 1) := by decide +kernel
theorem dX4_addPieces_48 : decode cX4_addPieces 48 = .ok (.aload_n 0, 1) := by decide +kernel
theorem dX4_addPieces_49 : decode cX4_addPieces 49 = .ok (.getfield 12, 3) := by decide +kernel
theorem dX4_addPieces_52 : decode cX4_addPieces 52 = .ok (.getfield 64, 3) := by decide +kernel
theorem dX4_addPieces_55 : decode cX4_addPieces 55 = .ok (.if_icmp .gt 21, 3) := by decide +kernel
theorem dX4_addPieces_58 : decode cX4_addPieces 58 = .ok (.iload_n 2, 1) := by decide +kernel
theorem dX4_addPieces_59 : decode cX4_addPieces 59 = .ok (.bipush 24, 2) := by decide +kernel
theorem dX4_addPieces_61 : decode cX4_addPieces 61 = .ok (.if_icmp .gt 15, 3) := by decide +kernel
theorem dX4_addPieces_64 : decode cX4_addPieces 64 = .ok (.aload_n 0, 1) := by decide +kernel
theorem dX4_addPieces_65 : decode cX4_addPieces 65 = .ok (.getfield 12, 3) := by decide +kernel
theorem dX4_addPieces_68 : decode cX4_addPieces 68 = .ok (.getfield 154, 3) := by decide +kernel
theorem dX4_addPieces_71 : decode cX4_addPieces 71 = .ok (.iload_n 2, 1) := by decide +kernel
theorem dX4_addPieces_72 : decode cX4_addPieces 72 = .ok (.iaload, 1) := by decide +kernel
theorem dX4_addPieces_73 : decode cX4_addPieces 73 = .ok (.ifCond .le 12, 3) := by decide +kernel
theorem dX4_addPieces_76 : decode cX4_addPieces 76 = .ok (.aload_n 0, 1) := by decide +kernel
theorem dX4_addPieces_77 : decode cX4_addPieces 77 = .ok (.getfield 18, 3) := by decide +kernel
theorem dX4_addPieces_80 : decode cX4_addPieces 80 = .ok (.iconst 2, 1) := by decide +kernel
theorem dX4_addPieces_81 : decode cX4_addPieces 81 = .ok (.invokevirtual 38, 3) := by decide +kernel
theorem dX4_addPieces_84 : decode cX4_addPieces 84 = .ok (.ireturn, 1) := by decide +kernel
theorem dX4_addPieces_85 : decode cX4_addPieces 85 = .ok (.aload_n 0, 1) := by decide +kernel
theorem dX4_addPieces_86 : decode cX4_addPieces 86 = .ok (.getfield 12, 3) := by decide +kernel
theorem dX4_addPieces_89 : decode cX4_addPieces 89 = .ok (.getfield 154, 3) := by decide +kernel
theorem dX4_addPieces_92 : decode cX4_addPieces 92 = .ok (.iload_n 2, 1) := by decide +kernel
theorem dX4_addPieces_93 : decode cX4_addPieces 93 = .ok (.iload_n 1, 1) := by decide +kernel
theorem dX4_addPieces_94 : decode cX4_addPieces 94 = .ok (.iastore, 1) := by decide +kernel
theorem dX4_addPieces_95 : decode cX4_addPieces 95 = .ok (.aload_n 0, 1) := by decide +kernel
theorem dX4_addPieces_96 : decode cX4_addPieces 96 = .ok (.getfield 18, 3) := by decide +kernel
theorem dX4_addPieces_99 : decode cX4_addPieces 99 = .ok (.invokevirtual 117, 3) := by decide +kernel
theorem dX4_addPieces_102 : decode cX4_addPieces 102 = .ok (.iconst 1, 1) := by decide +kernel
theorem dX4_addPieces_103 : decode cX4_addPieces 103 = .ok (.ireturn, 1) := by decide +kernel
theorem dX4_beginsOnce_0 : decode cX4_beginsOnce 0 = .ok (.iload_n 1, 1) := by decide +kernel
theorem dX4_beginsOnce_1 : decode cX4_beginsOnce 1 = .ok (.ifCond .eq 12, 3) := by decide +kernel
theorem dX4_beginsOnce_4 : decode cX4_beginsOnce 4 = .ok (.aload_n 0, 1) := by decide +kernel
theorem dX4_beginsOnce_5 : decode cX4_beginsOnce 5 = .ok (.getfield 18, 3) := by decide +kernel
theorem dX4_beginsOnce_8 : decode cX4_beginsOnce 8 = .ok (.iconst 5, 1) := by decide +kernel
theorem dX4_beginsOnce_9 : decode cX4_beginsOnce 9 = .ok (.invokevirtual 38, 3) := by decide +kernel
theorem dX4_beginsOnce_12 : decode cX4_beginsOnce 12 = .ok (.ireturn, 1) := by decide +kernel
theorem dX4_beginsOnce_13 : decode cX4_beginsOnce 13 = .ok (.aload_n 0, 1) := by decide +kernel
theorem dX4_beginsOnce_14 : decode cX4_beginsOnce 14 = .ok (.getfield 18, 3) := by decide +kernel
theorem dX4_beginsOnce_17 : decode cX4_beginsOnce 17 = .ok (.invokevirtual 117, 3) := by decide +kernel
theorem dX4_beginsOnce_20 : decode cX4_beginsOnce 20 = .ok (.iconst 1, 1) := by decide +kernel
theorem dX4_beginsOnce_21 : decode cX4_beginsOnce 21 = .ok (.ireturn, 1) := by decide +kernel
theorem dX4_failed_0 : decode cX4_failed 0 = .ok (.aload_n 0, 1) := by decide +kernel
theorem dX4_failed_1 : decode cX4_failed 1 = .ok (.getfield 18, 3) := by decide +kernel
theorem dX4_failed_4 : decode cX4_failed 4 = .ok (.iconst 1, 1) := by decide +kernel
theorem dX4_failed_5 : decode cX4_failed 5 = .ok (.invokevirtual 38, 3) := by decide +kernel
theorem dX4_failed_8 : decode cX4_failed 8 = .ok (.pop, 1) := by decide +kernel
theorem dX4_failed_9 : decode cX4_failed 9 = .ok (.iconst (-1), 1) := by decide +kernel
theorem dX4_failed_10 : decode cX4_failed 10 = .ok (.ireturn, 1) := by decide +kernel
theorem dX7_clear_0 : decode cX7_clear 0 = .ok (.aload_n 0, 1) := by decide +kernel
theorem dX7_clear_1 : decode cX7_clear 1 = .ok (.iconst 0, 1) := by decide +kernel
theorem dX7_clear_2 : decode cX7_clear 2 = .ok (.putfield 9, 3) := by decide +kernel
theorem dX7_clear_5 : decode cX7_clear 5 = .ok (.aload_n 0, 1) := by decide +kernel
theorem dX7_clear_6 : decode cX7_clear 6 = .ok (.iconst 4, 1) := by decide +kernel
theorem dX7_clear_7 : decode cX7_clear 7 = .ok (.putfield 15, 3) := by decide +kernel
theorem dX7_clear_10 : decode cX7_clear 10 = .ok (.aload_n 0, 1) := by decide +kernel
theorem dX7_clear_11 : decode cX7_clear 11 = .ok (.iconst 0, 1) := by decide +kernel
theorem dX7_clear_12 : decode cX7_clear 12 = .ok (.putfield 18, 3) := by decide +kernel
theorem dX7_clear_15 : decode cX7_clear 15 = .ok (.aload_n 0, 1) := by decide +kernel
theorem dX7_clear_16 : decode cX7_clear 16 = .ok (.iconst 0, 1) := by decide +kernel
theorem dX7_clear_17 : decode cX7_clear 17 = .ok (.putfield 21, 3) := by decide +kernel
theorem dX7_clear_20 : decode cX7_clear 20 = .ok (.aload_n 0, 1) := by decide +kernel
theorem dX7_clear_21 : decode cX7_clear 21 = .ok (.iconst 0, 1) := by decide +kernel
theorem dX7_clear_22 : decode cX7_clear 22 = .ok (.putfield 24, 3) := by decide +kernel
theorem dX7_clear_25 : decode cX7_clear 25 = .ok (.aload_n 0, 1) := by decide +kernel
theorem dX7_clear_26 : decode cX7_clear 26 = .ok (.iconst 0, 1) := by decide +kernel
theorem dX7_clear_27 : decode cX7_clear 27 = .ok (.putfield 27, 3) := by decide +kernel
theorem dX7_clear_30 : decode cX7_clear 30 = .ok (.aload_n 0, 1) := by decide +kernel
theorem dX7_clear_31 : decode cX7_clear 31 = .ok (.iconst 0, 1) := by decide +kernel
theorem dX7_clear_32 : decode cX7_clear 32 = .ok (.putfield 31, 3) := by decide +kernel
theorem dX7_clear_35 : decode cX7_clear 35 = .ok (.iconst 0, 1) := by decide +kernel
theorem dX7_clear_36 : decode cX7_clear 36 = .ok (.istore_n 1, 1) := by decide +kernel
theorem dX7_clear_37 : decode cX7_clear 37 = .ok (.iload_n 1, 1) := by decide +kernel
theorem dX7_clear_38 : decode cX7_clear 38 = .ok (.aload_n 0, 1) := by decide +kernel
theorem dX7_clear_39 : decode cX7_clear 39 = .ok (.getfield 44, 3) := by decide +kernel
theorem dX7_clear_42 : decode cX7_clear 42 = .ok (.arraylength, 1) := by decide +kernel
theorem dX7_clear_43 : decode cX7_clear 43 = .ok (.if_icmp .ge 16, 3) := by decide +kernel
theorem dX7_clear_46 : decode cX7_clear 46 = .ok (.aload_n 0, 1) := by decide +kernel
theorem dX7_clear_47 : decode cX7_clear 47 = .ok (.getfield 44, 3) := by decide +kernel
theorem dX7_clear_50 : decode cX7_clear 50 = .ok (.iload_n 1, 1) := by decide +kernel
theorem dX7_clear_51 : decode cX7_clear 51 = .ok (.iconst 0, 1) := by decide +kernel
theorem dX7_clear_52 : decode cX7_clear 52 = .ok (.iastore, 1) := by decide +kernel
theorem dX7_clear_53 : decode cX7_clear 53 = .ok (.iinc 1 1, 3) := by decide +kernel
theorem dX7_clear_56 : decode cX7_clear 56 = .ok (.goto (-19), 3) := by decide +kernel
theorem dX7_clear_59 : decode cX7_clear 59 = .ok (.aload_n 0, 1) := by decide +kernel
theorem dX7_clear_60 : decode cX7_clear 60 = .ok (.getfield 50, 3) := by decide +kernel
theorem dX7_clear_63 : decode cX7_clear 63 = .ok (.invokevirtual 66, 3) := by decide +kernel
theorem dX7_clear_66 : decode cX7_clear 66 = .ok (.aload_n 0, 1) := by decide +kernel
theorem dX7_clear_67 : decode cX7_clear 67 = .ok (.getfield 50, 3) := by decide +kernel
theorem dX7_clear_70 : decode cX7_clear 70 = .ok (.iconst 1, 1) := by decide +kernel
theorem dX7_clear_71 : decode cX7_clear 71 = .ok (.iconst 0, 1) := by decide +kernel
theorem dX7_clear_72 : decode cX7_clear 72 = .ok (.invokevirtual 69, 3) := by decide +kernel
theorem dX7_clear_75 : decode cX7_clear 75 = .ok (.aload_n 0, 1) := by decide +kernel
theorem dX7_clear_76 : decode cX7_clear 76 = .ok (.getfield 54, 3) := by decide +kernel
theorem dX7_clear_79 : decode cX7_clear 79 = .ok (.invokevirtual 66, 3) := by decide +kernel
theorem dX7_clear_82 : decode cX7_clear 82 = .ok (.aload_n 0, 1) := by decide +kernel
theorem dX7_clear_83 : decode cX7_clear 83 = .ok (.getfield 54, 3) := by decide +kernel
theorem dX7_clear_86 : decode cX7_clear 86 = .ok (.iconst 0, 1) := by decide +kernel
theorem dX7_clear_87 : decode cX7_clear 87 = .ok (.iconst 1, 1) := by decide +kernel
theorem dX7_clear_88 : decode cX7_clear 88 = .ok (.invokevirtual 69, 3) := by decide +kernel
theorem dX7_clear_91 : decode cX7_clear 91 = .ok (.return_, 1) := by decide +kernel
theorem dX8_begin_0 : decode cX8_begin 0 = .ok (.aload_n 0, 1) := by decide +kernel
theorem dX8_begin_1 : decode cX8_begin 1 = .ok (.iconst 0, 1) := by decide +kernel
theorem dX8_begin_2 : decode cX8_begin 2 = .ok (.putfield 11, 3) := by decide +kernel
theorem dX8_begin_5 : decode cX8_begin 5 = .ok (.aload_n 0, 1) := by decide +kernel
theorem dX8_begin_6 : decode cX8_begin 6 = .ok (.iconst 0, 1) := by decide +kernel
theorem dX8_begin_7 : decode cX8_begin 7 = .ok (.putfield 18, 3) := by decide +kernel
theorem dX8_begin_10 : decode cX8_begin 10 = .ok (.aload_n 0, 1) := by decide +kernel
theorem dX8_begin_11 : decode cX8_begin 11 = .ok (.iconst 0, 1) := by decide +kernel
theorem dX8_begin_12 : decode cX8_begin 12 = .ok (.putfield 21, 3) := by decide +kernel
theorem dX8_begin_15 : decode cX8_begin 15 = .ok (.aload_n 0, 1) := by decide +kernel
theorem dX8_begin_16 : decode cX8_begin 16 = .ok (.iconst (-1), 1) := by decide +kernel
theorem dX8_begin_17 : decode cX8_begin 17 = .ok (.putfield 24, 3) := by decide +kernel
theorem dX8_begin_20 : decode cX8_begin 20 = .ok (.aload_n 0, 1) := by decide +kernel
theorem dX8_begin_21 : decode cX8_begin 21 = .ok (.invokevirtual 31, 3) := by decide +kernel
theorem dX8_begin_24 : decode cX8_begin 24 = .ok (.return_, 1) := by decide +kernel
theorem dX8_isSign_0 : decode cX8_isSign 0 = .ok (.aload_n 0, 1) := by decide +kernel
theorem dX8_isSign_1 : decode cX8_isSign 1 = .ok (.getfield 11, 3) := by decide +kernel
theorem dX8_isSign_4 : decode cX8_isSign 4 = .ok (.iconst 3, 1) := by decide +kernel
theorem dX8_isSign_5 : decode cX8_isSign 5 = .ok (.if_icmp .ne 37, 3) := by decide +kernel
theorem dX8_isSign_8 : decode cX8_isSign 8 = .ok (.aload_n 0, 1) := by decide +kernel
theorem dX8_isSign_9 : decode cX8_isSign 9 = .ok (.getfield 15, 3) := by decide +kernel
theorem dX8_isSign_12 : decode cX8_isSign 12 = .ok (.aload_n 0, 1) := by decide +kernel
theorem dX8_isSign_13 : decode cX8_isSign 13 = .ok (.getfield 27, 3) := by decide +kernel
theorem dX8_isSign_16 : decode cX8_isSign 16 = .ok (.getfield 34, 3) := by decide +kernel
theorem dX8_isSign_19 : decode cX8_isSign 19 = .ok (.if_icmp .ge 23, 3) := by decide +kernel
theorem dX8_isSign_22 : decode cX8_isSign 22 = .ok (.aload_n 0, 1) := by decide +kernel
theorem dX8_isSign_23 : decode cX8_isSign 23 = .ok (.getfield 27, 3) := by decide +kernel
theorem dX8_isSign_26 : decode cX8_isSign 26 = .ok (.getfield 39, 3) := by decide +kernel
theorem dX8_isSign_29 : decode cX8_isSign 29 = .ok (.aload_n 0, 1) := by decide +kernel
theorem dX8_isSign_30 : decode cX8_isSign 30 = .ok (.getfield 15, 3) := by decide +kernel
theorem dX8_isSign_33 : decode cX8_isSign 33 = .ok (.iaload, 1) := by decide +kernel
theorem dX8_isSign_34 : decode cX8_isSign 34 = .ok (.iload_n 1, 1) := by decide +kernel
theorem dX8_isSign_35 : decode cX8_isSign 35 = .ok (.if_icmp .ne 7, 3) := by decide +kernel
theorem dX8_isSign_38 : decode cX8_isSign 38 = .ok (.iconst 1, 1) := by decide +kernel
theorem dX8_isSign_39 : decode cX8_isSign 39 = .ok (.goto 4, 3) := by decide +kernel
theorem dX8_isSign_42 : decode cX8_isSign 42 = .ok (.iconst 0, 1) := by decide +kernel
theorem dX8_isSign_43 : decode cX8_isSign 43 = .ok (.ireturn, 1) := by decide +kernel
theorem dX6_put_0 : decode cX6_put 0 = .ok (.aload_n 0, 1) := by decide +kernel
theorem dX6_put_1 : decode cX6_put 1 = .ok (.getfield 9, 3) := by decide +kernel
theorem dX6_put_4 : decode cX6_put 4 = .ok (.ifnull 12, 3) := by decide +kernel
theorem dX6_put_7 : decode cX6_put 7 = .ok (.aload_n 0, 1) := by decide +kernel
theorem dX6_put_8 : decode cX6_put 8 = .ok (.getfield 9, 3) := by decide +kernel
theorem dX6_put_11 : decode cX6_put 11 = .ok (.iload_n 1, 1) := by decide +kernel
theorem dX6_put_12 : decode cX6_put 12 = .ok (.iconst 0, 1) := by decide +kernel
theorem dX6_put_13 : decode cX6_put 13 = .ok (.invokevirtual 76, 3) := by decide +kernel
theorem dX6_put_16 : decode cX6_put 16 = .ok (.iconst 1, 1) := by decide +kernel
theorem dX6_put_17 : decode cX6_put 17 = .ok (.ireturn, 1) := by decide +kernel
theorem dX6_opens_0 : decode cX6_opens 0 = .ok (.iload_n 1, 1) := by decide +kernel
theorem dX6_opens_1 : decode cX6_opens 1 = .ok (.bipush 6, 2) := by decide +kernel
theorem dX6_opens_3 : decode cX6_opens 3 = .ok (.if_icmp .lt 12, 3) := by decide +kernel
theorem dX6_opens_6 : decode cX6_opens 6 = .ok (.aload_n 0, 1) := by decide +kernel
theorem dX6_opens_7 : decode cX6_opens 7 = .ok (.getfield 19, 3) := by decide +kernel
theorem dX6_opens_10 : decode cX6_opens 10 = .ok (.iconst 4, 1) := by decide +kernel
theorem dX6_opens_11 : decode cX6_opens 11 = .ok (.invokevirtual 44, 3) := by decide +kernel
theorem dX6_opens_14 : decode cX6_opens 14 = .ok (.ireturn, 1) := by decide +kernel
theorem dX6_opens_15 : decode cX6_opens 15 = .ok (.aload_n 0, 1) := by decide +kernel
theorem dX6_opens_16 : decode cX6_opens 16 = .ok (.getfield 19, 3) := by decide +kernel
theorem dX6_opens_19 : decode cX6_opens 19 = .ok (.invokevirtual 47, 3) := by decide +kernel
theorem dX6_opens_22 : decode cX6_opens 22 = .ok (.iconst 1, 1) := by decide +kernel
theorem dX6_opens_23 : decode cX6_opens 23 = .ok (.ireturn, 1) := by decide +kernel
theorem dX8_takeSign_0 : decode cX8_takeSign 0 = .ok (.aload_n 0, 1) := by decide +kernel
theorem dX8_takeSign_1 : decode cX8_takeSign 1 = .ok (.iload_n 1, 1) := by decide +kernel
theorem dX8_takeSign_2 : decode cX8_takeSign 2 = .ok (.invokevirtual 59, 3) := by decide +kernel
theorem dX8_takeSign_5 : decode cX8_takeSign 5 = .ok (.ifCond .ne 9, 3) := by decide +kernel
theorem dX8_takeSign_8 : decode cX8_takeSign 8 = .ok (.aload_n 0, 1) := by decide +kernel
theorem dX8_takeSign_9 : decode cX8_takeSign 9 = .ok (.iconst 1, 1) := by decide +kernel
theorem dX8_takeSign_10 : decode cX8_takeSign 10 = .ok (.invokevirtual 63, 3) := by decide +kernel
theorem dX8_takeSign_13 : decode cX8_takeSign 13 = .ok (.ireturn, 1) := by decide +kernel
theorem dX8_takeSign_14 : decode cX8_takeSign 14 = .ok (.aload_n 0, 1) := by decide +kernel
theorem dX8_takeSign_15 : decode cX8_takeSign 15 = .ok (.invokevirtual 31, 3) := by decide +kernel
theorem dX8_takeSign_18 : decode cX8_takeSign 18 = .ok (.iconst 1, 1) := by decide +kernel
theorem dX8_takeSign_19 : decode cX8_takeSign 19 = .ok (.ireturn, 1) := by decide +kernel
theorem dX6_putWith_0 : decode cX6_putWith 0 = .ok (.aload_n 0, 1) := by decide +kernel
theorem dX6_putWith_1 : decode cX6_putWith 1 = .ok (.getfield 9, 3) := by decide +kernel
theorem dX6_putWith_4 : decode cX6_putWith 4 = .ok (.ifnull 12, 3) := by decide +kernel
theorem dX6_putWith_7 : decode cX6_putWith 7 = .ok (.aload_n 0, 1) := by decide +kernel
theorem dX6_putWith_8 : decode cX6_putWith 8 = .ok (.getfield 9, 3) := by decide +kernel
theorem dX6_putWith_11 : decode cX6_putWith 11 = .ok (.iload_n 1, 1) := by decide +kernel
theorem dX6_putWith_12 : decode cX6_putWith 12 = .ok (.iload_n 2, 1) := by decide +kernel
theorem dX6_putWith_13 : decode cX6_putWith 13 = .ok (.invokevirtual 76, 3) := by decide +kernel
theorem dX6_putWith_16 : decode cX6_putWith 16 = .ok (.iconst 1, 1) := by decide +kernel
theorem dX6_putWith_17 : decode cX6_putWith 17 = .ok (.ireturn, 1) := by decide +kernel
theorem dX6_comparisonHere_0 : decode cX6_comparisonHere 0 = .ok (.aload_n 0, 1) := by decide +kernel
theorem dX6_comparisonHere_1 : decode cX6_comparisonHere 1 = .ok (.getfield 19, 3) := by decide +kernel
theorem dX6_comparisonHere_4 : decode cX6_comparisonHere 4 = .ok (.bipush 60, 2) := by decide +kernel
theorem dX6_comparisonHere_6 : decode cX6_comparisonHere 6 = .ok (.invokevirtual 98, 3) := by decide +kernel
theorem dX6_comparisonHere_9 : decode cX6_comparisonHere 9 = .ok (.ifCond .eq 6, 3) := by decide +kernel
theorem dX6_comparisonHere_12 : decode cX6_comparisonHere 12 = .ok (.bipush 11, 2) := by decide +kernel
theorem dX6_comparisonHere_14 : decode cX6_comparisonHere 14 = .ok (.ireturn, 1) := by decide +kernel
theorem dX6_comparisonHere_15 : decode cX6_comparisonHere 15 = .ok (.aload_n 0, 1) := by decide +kernel
theorem dX6_comparisonHere_16 : decode cX6_comparisonHere 16 = .ok (.getfield 19, 3) := by decide +kernel
theorem dX6_comparisonHere_19 : decode cX6_comparisonHere 19 = .ok (.bipush 62, 2) := by decide +kernel
theorem dX6_comparisonHere_21 : decode cX6_comparisonHere 21 = .ok (.invokevirtual 98, 3) := by decide +kernel
theorem dX6_comparisonHere_24 : decode cX6_comparisonHere 24 = .ok (.ifCond .eq 6, 3) := by decide +kernel
theorem dX6_comparisonHere_27 : decode cX6_comparisonHere 27 = .ok (.bipush 12, 2) := by decide +kernel
theorem dX6_comparisonHere_29 : decode cX6_comparisonHere 29 = .ok (.ireturn, 1) := by decide +kernel
theorem dX6_comparisonHere_30 : decode cX6_comparisonHere 30 = .ok (.aload_n 0, 1) := by decide +kernel
theorem dX6_comparisonHere_31 : decode cX6_comparisonHere 31 = .ok (.getfield 19, 3) := by decide +kernel
theorem dX6_comparisonHere_34 : decode cX6_comparisonHere 34 = .ok (.bipush 61, 2) := by decide +kernel
theorem dX6_comparisonHere_36 : decode cX6_comparisonHere 36 = .ok (.invokevirtual 98, 3) := by decide +kernel
theorem dX6_comparisonHere_39 : decode cX6_comparisonHere 39 = .ok (.ifCond .eq 8, 3) := by decide +kernel
theorem dX6_comparisonHere_42 : decode cX6_comparisonHere 42 = .ok (.bipush 13, 2) := by decide +kernel
theorem dX6_comparisonHere_44 : decode cX6_comparisonHere 44 = .ok (.goto 4, 3) := by decide +kernel
theorem dX6_comparisonHere_47 : decode cX6_comparisonHere 47 = .ok (.iconst (-1), 1) := by decide +kernel
theorem dX6_comparisonHere_48 : decode cX6_comparisonHere 48 = .ok (.ireturn, 1) := by decide +kernel
theorem dX6_factOfPerson_0 : decode cX6_factOfPerson 0 = .ok (.aload_n 0, 1) := by decide +kernel
theorem dX6_factOfPerson_1 : decode cX6_factOfPerson 1 = .ok (.getfield 19, 3) := by decide +kernel
theorem dX6_factOfPerson_4 : decode cX6_factOfPerson 4 = .ok (.ldc 148, 2) := by decide +kernel
theorem dX6_factOfPerson_6 : decode cX6_factOfPerson 6 = .ok (.invokevirtual 62, 3) := by decide +kernel
theorem dX6_factOfPerson_9 : decode cX6_factOfPerson 9 = .ok (.ifCond .eq 5, 3) := by decide +kernel
theorem dX6_factOfPerson_12 : decode cX6_factOfPerson 12 = .ok (.iconst 5, 1) := by decide +kernel
theorem dX6_factOfPerson_13 : decode cX6_factOfPerson 13 = .ok (.ireturn, 1) := by decide +kernel
theorem dX6_factOfPerson_14 : decode cX6_factOfPerson 14 = .ok (.aload_n 0, 1) := by decide +kernel
theorem dX6_factOfPerson_15 : decode cX6_factOfPerson 15 = .ok (.getfield 19, 3) := by decide +kernel
theorem dX6_factOfPerson_18 : decode cX6_factOfPerson 18 = .ok (.ldc 146, 2) := by decide +kernel
theorem dX6_factOfPerson_20 : decode cX6_factOfPerson 20 = .ok (.invokevirtual 62, 3) := by decide +kernel
theorem dX6_factOfPerson_23 : decode cX6_factOfPerson 23 = .ok (.ifCond .eq 5, 3) := by decide +kernel
theorem dX6_factOfPerson_26 : decode cX6_factOfPerson 26 = .ok (.iconst 4, 1) := by decide +kernel
theorem dX6_factOfPerson_27 : decode cX6_factOfPerson 27 = .ok (.ireturn, 1) := by decide +kernel
theorem dX6_factOfPerson_28 : decode cX6_factOfPerson 28 = .ok (.aload_n 0, 1) := by decide +kernel
theorem dX6_factOfPerson_29 : decode cX6_factOfPerson 29 = .ok (.getfield 19, 3) := by decide +kernel
theorem dX6_factOfPerson_32 : decode cX6_factOfPerson 32 = .ok (.ldc 150, 2) := by decide +kernel
theorem dX6_factOfPerson_34 : decode cX6_factOfPerson 34 = .ok (.invokevirtual 62, 3) := by decide +kernel
theorem dX6_factOfPerson_37 : decode cX6_factOfPerson 37 = .ok (.ifCond .eq 6, 3) := by decide +kernel
theorem dX6_factOfPerson_40 : decode cX6_factOfPerson 40 = .ok (.bipush 6, 2) := by decide +kernel
theorem dX6_factOfPerson_42 : decode cX6_factOfPerson 42 = .ok (.ireturn, 1) := by decide +kernel
theorem dX6_factOfPerson_43 : decode cX6_factOfPerson 43 = .ok (.aload_n 0, 1) := by decide +kernel
theorem dX6_factOfPerson_44 : decode cX6_factOfPerson 44 = .ok (.getfield 19, 3) := by decide +kernel
theorem dX6_factOfPerson_47 : decode cX6_factOfPerson 47 = .ok (.ldc 152, 2) := by decide +kernel
theorem dX6_factOfPerson_49 : decode cX6_factOfPerson 49 = .ok (.invokevirtual 62, 3) := by decide +kernel
theorem dX6_factOfPerson_52 : decode cX6_factOfPerson 52 = .ok (.ifCond .eq 6, 3) := by decide +kernel
theorem dX6_factOfPerson_55 : decode cX6_factOfPerson 55 = .ok (.bipush 7, 2) := by decide +kernel
theorem dX6_factOfPerson_57 : decode cX6_factOfPerson 57 = .ok (.ireturn, 1) := by decide +kernel
theorem dX6_factOfPerson_58 : decode cX6_factOfPerson 58 = .ok (.aload_n 0, 1) := by decide +kernel
theorem dX6_factOfPerson_59 : decode cX6_factOfPerson 59 = .ok (.getfield 19, 3) := by decide +kernel
theorem dX6_factOfPerson_62 : decode cX6_factOfPerson 62 = .ok (.ldc 154, 2) := by decide +kernel
theorem dX6_factOfPerson_64 : decode cX6_factOfPerson 64 = .ok (.invokevirtual 62, 3) := by decide +kernel
theorem dX6_factOfPerson_67 : decode cX6_factOfPerson 67 = .ok (.ifCond .eq 6, 3) := by decide +kernel
theorem dX6_factOfPerson_70 : decode cX6_factOfPerson 70 = .ok (.bipush 8, 2) := by decide +kernel
theorem dX6_factOfPerson_72 : decode cX6_factOfPerson 72 = .ok (.ireturn, 1) := by decide +kernel
theorem dX6_factOfPerson_73 : decode cX6_factOfPerson 73 = .ok (.aload_n 0, 1) := by decide +kernel
theorem dX6_factOfPerson_74 : decode cX6_factOfPerson 74 = .ok (.getfield 19, 3) := by decide +kernel
theorem dX6_factOfPerson_77 : decode cX6_factOfPerson 77 = .ok (.ldc 156, 2) := by decide +kernel
theorem dX6_factOfPerson_79 : decode cX6_factOfPerson 79 = .ok (.invokevirtual 62, 3) := by decide +kernel
theorem dX6_factOfPerson_82 : decode cX6_factOfPerson 82 = .ok (.ifCond .eq 6, 3) := by decide +kernel
theorem dX6_factOfPerson_85 : decode cX6_factOfPerson 85 = .ok (.bipush 9, 2) := by decide +kernel
theorem dX6_factOfPerson_87 : decode cX6_factOfPerson 87 = .ok (.ireturn, 1) := by decide +kernel
theorem dX6_factOfPerson_88 : decode cX6_factOfPerson 88 = .ok (.aload_n 0, 1) := by decide +kernel
theorem dX6_factOfPerson_89 : decode cX6_factOfPerson 89 = .ok (.getfield 19, 3) := by decide +kernel
theorem dX6_factOfPerson_92 : decode cX6_factOfPerson 92 = .ok (.ldc 142, 2) := by decide +kernel
theorem dX6_factOfPerson_94 : decode cX6_factOfPerson 94 = .ok (.invokevirtual 62, 3) := by decide +kernel
theorem dX6_factOfPerson_97 : decode cX6_factOfPerson 97 = .ok (.ifCond .eq 7, 3) := by decide +kernel
theorem dX6_factOfPerson_100 : decode cX6_factOfPerson 100 = .ok (.iconst 2, 1) := by decide +kernel
theorem dX6_factOfPerson_101 : decode cX6_factOfPerson 101 = .ok (.goto 4, 3) := by decide +kernel
theorem dX6_factOfPerson_104 : decode cX6_factOfPerson 104 = .ok (.iconst (-1), 1) := by decide +kernel
theorem dX6_factOfPerson_105 : decode cX6_factOfPerson 105 = .ok (.ireturn, 1) := by decide +kernel
theorem dX6_factOfPart_0 : decode cX6_factOfPart 0 = .ok (.aload_n 0, 1) := by decide +kernel
theorem dX6_factOfPart_1 : decode cX6_factOfPart 1 = .ok (.getfield 19, 3) := by decide +kernel
theorem dX6_factOfPart_4 : decode cX6_factOfPart 4 = .ok (.ldc 140, 2) := by decide +kernel
theorem dX6_factOfPart_6 : decode cX6_factOfPart 6 = .ok (.invokevirtual 62, 3) := by decide +kernel
theorem dX6_factOfPart_9 : decode cX6_factOfPart 9 = .ok (.ifCond .eq 5, 3) := by decide +kernel
theorem dX6_factOfPart_12 : decode cX6_factOfPart 12 = .ok (.iconst 0, 1) := by decide +kernel
theorem dX6_factOfPart_13 : decode cX6_factOfPart 13 = .ok (.ireturn, 1) := by decide +kernel
theorem dX6_factOfPart_14 : decode cX6_factOfPart 14 = .ok (.aload_n 0, 1) := by decide +kernel
theorem dX6_factOfPart_15 : decode cX6_factOfPart 15 = .ok (.getfield 19, 3) := by decide +kernel
theorem dX6_factOfPart_18 : decode cX6_factOfPart 18 = .ok (.ldc 130, 2) := by decide +kernel
theorem dX6_factOfPart_20 : decode cX6_factOfPart 20 = .ok (.invokevirtual 62, 3) := by decide +kernel
theorem dX6_factOfPart_23 : decode cX6_factOfPart 23 = .ok (.ifCond .eq 5, 3) := by decide +kernel
theorem dX6_factOfPart_26 : decode cX6_factOfPart 26 = .ok (.iconst 1, 1) := by decide +kernel
theorem dX6_factOfPart_27 : decode cX6_factOfPart 27 = .ok (.ireturn, 1) := by decide +kernel
theorem dX6_factOfPart_28 : decode cX6_factOfPart 28 = .ok (.aload_n 0, 1) := by decide +kernel
theorem dX6_factOfPart_29 : decode cX6_factOfPart 29 = .ok (.getfield 19, 3) := by decide +kernel
theorem dX6_factOfPart_32 : decode cX6_factOfPart 32 = .ok (.ldc 142, 2) := by decide +kernel
theorem dX6_factOfPart_34 : decode cX6_factOfPart 34 = .ok (.invokevirtual 62, 3) := by decide +kernel
theorem dX6_factOfPart_37 : decode cX6_factOfPart 37 = .ok (.ifCond .eq 5, 3) := by decide +kernel
theorem dX6_factOfPart_40 : decode cX6_factOfPart 40 = .ok (.iconst 2, 1) := by decide +kernel
theorem dX6_factOfPart_41 : decode cX6_factOfPart 41 = .ok (.ireturn, 1) := by decide +kernel
theorem dX6_factOfPart_42 : decode cX6_factOfPart 42 = .ok (.aload_n 0, 1) := by decide +kernel
theorem dX6_factOfPart_43 : decode cX6_factOfPart 43 = .ok (.getfield 15, 3) := by decide +kernel
theorem dX6_factOfPart_46 : decode cX6_factOfPart 46 = .ok (.ifCond .ne 21, 3) := by decide +kernel
theorem dX6_factOfPart_49 : decode cX6_factOfPart 49 = .ok (.aload_n 0, 1) := by decide +kernel
theorem dX6_factOfPart_50 : decode cX6_factOfPart 50 = .ok (.getfield 19, 3) := by decide +kernel
theorem dX6_factOfPart_53 : decode cX6_factOfPart 53 = .ok (.ldc 144, 2) := by decide +kernel
theorem dX6_factOfPart_55 : decode cX6_factOfPart 55 = .ok (.invokevirtual 62, 3) := by decide +kernel
theorem dX6_factOfPart_58 : decode cX6_factOfPart 58 = .ok (.ifCond .eq 7, 3) := by decide +kernel
theorem dX6_factOfPart_61 : decode cX6_factOfPart 61 = .ok (.iconst 3, 1) := by decide +kernel
theorem dX6_factOfPart_62 : decode cX6_factOfPart 62 = .ok (.goto 4, 3) := by decide +kernel
theorem dX6_factOfPart_65 : decode cX6_factOfPart 65 = .ok (.iconst (-1), 1) := by decide +kernel
theorem dX6_factOfPart_66 : decode cX6_factOfPart 66 = .ok (.ireturn, 1) := by decide +kernel
theorem dX6_factOfPart_67 : decode cX6_factOfPart 67 = .ok (.aload_n 0, 1) := by decide +kernel
theorem dX6_factOfPart_68 : decode cX6_factOfPart 68 = .ok (.getfield 19, 3) := by decide +kernel
theorem dX6_factOfPart_71 : decode cX6_factOfPart 71 = .ok (.ldc 146, 2) := by decide +kernel
theorem dX6_factOfPart_73 : decode cX6_factOfPart 73 = .ok (.invokevirtual 62, 3) := by decide +kernel
theorem dX6_factOfPart_76 : decode cX6_factOfPart 76 = .ok (.ifCond .eq 7, 3) := by decide +kernel
theorem dX6_factOfPart_79 : decode cX6_factOfPart 79 = .ok (.iconst 4, 1) := by decide +kernel
theorem dX6_factOfPart_80 : decode cX6_factOfPart 80 = .ok (.goto 4, 3) := by decide +kernel
theorem dX6_factOfPart_83 : decode cX6_factOfPart 83 = .ok (.iconst (-1), 1) := by decide +kernel
theorem dX6_factOfPart_84 : decode cX6_factOfPart 84 = .ok (.ireturn, 1) := by decide +kernel
theorem dX6_test_0 : decode cX6_test 0 = .ok (.aload_n 0, 1) := by decide +kernel
theorem dX6_test_1 : decode cX6_test 1 = .ok (.iload_n 1, 1) := by decide +kernel
theorem dX6_test_2 : decode cX6_test 2 = .ok (.invokevirtual 80, 3) := by decide +kernel
theorem dX6_test_5 : decode cX6_test 5 = .ok (.ifCond .ne 5, 3) := by decide +kernel
theorem dX6_test_8 : decode cX6_test 8 = .ok (.iconst 0, 1) := by decide +kernel
theorem dX6_test_9 : decode cX6_test 9 = .ok (.ireturn, 1) := by decide +kernel
theorem dX6_test_10 : decode cX6_test 10 = .ok (.iconst 0, 1) := by decide +kernel
theorem dX6_test_11 : decode cX6_test 11 = .ok (.istore_n 2, 1) := by decide +kernel
theorem dX6_test_12 : decode cX6_test 12 = .ok (.iload_n 2, 1) := by decide +kernel
theorem dX6_test_13 : decode cX6_test 13 = .ok (.sipush 1600, 3) := by decide +kernel
theorem dX6_test_16 : decode cX6_test 16 = .ok (.if_icmp .ge 45, 3) := by decide +kernel
theorem dX6_test_19 : decode cX6_test 19 = .ok (.aload_n 0, 1) := by decide +kernel
theorem dX6_test_20 : decode cX6_test 20 = .ok (.getfield 19, 3) := by decide +kernel
theorem dX6_test_23 : decode cX6_test 23 = .ok (.ldc 83, 2) := by decide +kernel
theorem dX6_test_25 : decode cX6_test 25 = .ok (.invokevirtual 62, 3) := by decide +kernel
theorem dX6_test_28 : decode cX6_test 28 = .ok (.ifCond .eq 33, 3) := by decide +kernel
theorem dX6_test_31 : decode cX6_test 31 = .ok (.aload_n 0, 1) := by decide +kernel
theorem dX6_test_32 : decode cX6_test 32 = .ok (.getfield 19, 3) := by decide +kernel
theorem dX6_test_35 : decode cX6_test 35 = .ok (.invokevirtual 47, 3) := by decide +kernel
theorem dX6_test_38 : decode cX6_test 38 = .ok (.aload_n 0, 1) := by decide +kernel
theorem dX6_test_39 : decode cX6_test 39 = .ok (.iload_n 1, 1) := by decide +kernel
theorem dX6_test_40 : decode cX6_test 40 = .ok (.invokevirtual 80, 3) := by decide +kernel
theorem dX6_test_43 : decode cX6_test 43 = .ok (.ifCond .ne 5, 3) := by decide +kernel
theorem dX6_test_46 : decode cX6_test 46 = .ok (.iconst 0, 1) := by decide +kernel
theorem dX6_test_47 : decode cX6_test 47 = .ok (.ireturn, 1) := by decide +kernel
theorem dX6_test_48 : decode cX6_test 48 = .ok (.aload_n 0, 1) := by decide +kernel
theorem dX6_test_49 : decode cX6_test 49 = .ok (.bipush 15, 2) := by decide +kernel
theorem dX6_test_51 : decode cX6_test 51 = .ok (.invokevirtual 85, 3) := by decide +kernel
theorem dX6_test_54 : decode cX6_test 54 = .ok (.pop, 1) := by decide +kernel
theorem dX6_test_55 : decode cX6_test 55 = .ok (.iinc 2 1, 3) := by decide +kernel
theorem dX6_test_58 : decode cX6_test 58 = .ok (.goto (-46), 3) := by decide +kernel
theorem dX6_test_61 : decode cX6_test 61 = .ok (.iconst 1, 1) := by decide +kernel
theorem dX6_test_62 : decode cX6_test 62 = .ok (.ireturn, 1) := by decide +kernel
theorem dX6_both_0 : decode cX6_both 0 = .ok (.aload_n 0, 1) := by decide +kernel
theorem dX6_both_1 : decode cX6_both 1 = .ok (.iload_n 1, 1) := by decide +kernel
theorem dX6_both_2 : decode cX6_both 2 = .ok (.invokevirtual 88, 3) := by decide +kernel
theorem dX6_both_5 : decode cX6_both 5 = .ok (.ifCond .ne 5, 3) := by decide +kernel
theorem dX6_both_8 : decode cX6_both 8 = .ok (.iconst 0, 1) := by decide +kernel
theorem dX6_both_9 : decode cX6_both 9 = .ok (.ireturn, 1) := by decide +kernel
theorem dX6_both_10 : decode cX6_both 10 = .ok (.iconst 0, 1) := by decide +kernel
theorem dX6_both_11 : decode cX6_both 11 = .ok (.istore_n 2, 1) := by decide +kernel
theorem dX6_both_12 : decode cX6_both 12 = .ok (.iload_n 2, 1) := by decide +kernel
theorem dX6_both_13 : decode cX6_both 13 = .ok (.sipush 1600, 3) := by decide +kernel
theorem dX6_both_16 : decode cX6_both 16 = .ok (.if_icmp .ge 45, 3) := by decide +kernel
theorem dX6_both_19 : decode cX6_both 19 = .ok (.aload_n 0, 1) := by decide +kernel
theorem dX6_both_20 : decode cX6_both 20 = .ok (.getfield 19, 3) := by decide +kernel
theorem dX6_both_23 : decode cX6_both 23 = .ok (.ldc 91, 2) := by decide +kernel
theorem dX6_both_25 : decode cX6_both 25 = .ok (.invokevirtual 62, 3) := by decide +kernel
theorem dX6_both_28 : decode cX6_both 28 = .ok (.ifCond .eq 33, 3) := by decide +kernel
theorem dX6_both_31 : decode cX6_both 31 = .ok (.aload_n 0, 1) := by decide +kernel
theorem dX6_both_32 : decode cX6_both 32 = .ok (.getfield 19, 3) := by decide +kernel
theorem dX6_both_35 : decode cX6_both 35 = .ok (.invokevirtual 47, 3) := by decide +kernel
theorem dX6_both_38 : decode cX6_both 38 = .ok (.aload_n 0, 1) := by decide +kernel
theorem dX6_both_39 : decode cX6_both 39 = .ok (.iload_n 1, 1) := by decide +kernel
theorem dX6_both_40 : decode cX6_both 40 = .ok (.invokevirtual 88, 3) := by decide +kernel
theorem dX6_both_43 : decode cX6_both 43 = .ok (.ifCond .ne 5, 3) := by decide +kernel
theorem dX6_both_46 : decode cX6_both 46 = .ok (.iconst 0, 1) := by decide +kernel
theorem dX6_both_47 : decode cX6_both 47 = .ok (.ireturn, 1) := by decide +kernel
theorem dX6_both_48 : decode cX6_both 48 = .ok (.aload_n 0, 1) := by decide +kernel
theorem dX6_both_49 : decode cX6_both 49 = .ok (.bipush 14, 2) := by decide +kernel
theorem dX6_both_51 : decode cX6_both 51 = .ok (.invokevirtual 85, 3) := by decide +kernel
theorem dX6_both_54 : decode cX6_both 54 = .ok (.pop, 1) := by decide +kernel
theorem dX6_both_55 : decode cX6_both 55 = .ok (.iinc 2 1, 3) := by decide +kernel
theorem dX6_both_58 : decode cX6_both 58 = .ok (.goto (-46), 3) := by decide +kernel
theorem dX6_both_61 : decode cX6_both 61 = .ok (.iconst 1, 1) := by decide +kernel
theorem dX6_both_62 : decode cX6_both 62 = .ok (.ireturn, 1) := by decide +kernel
theorem dX6_fact_0 : decode cX6_fact 0 = .ok (.aload_n 0, 1) := by decide +kernel
theorem dX6_fact_1 : decode cX6_fact 1 = .ok (.getfield 19, 3) := by decide +kernel
theorem dX6_fact_4 : decode cX6_fact 4 = .ok (.ldc 93, 2) := by decide +kernel
theorem dX6_fact_6 : decode cX6_fact 6 = .ok (.invokevirtual 62, 3) := by decide +kernel
theorem dX6_fact_9 : decode cX6_fact 9 = .ok (.ifCond .eq 35, 3) := by decide +kernel
theorem dX6_fact_12 : decode cX6_fact 12 = .ok (.aload_n 0, 1) := by decide +kernel
theorem dX6_fact_13 : decode cX6_fact 13 = .ok (.iload_n 1, 1) := by decide +kernel
theorem dX6_fact_14 : decode cX6_fact 14 = .ok (.invokevirtual 95, 3) := by decide +kernel
theorem dX6_fact_17 : decode cX6_fact 17 = .ok (.ifCond .eq 25, 3) := by decide +kernel
theorem dX6_fact_20 : decode cX6_fact 20 = .ok (.aload_n 0, 1) := by decide +kernel
theorem dX6_fact_21 : decode cX6_fact 21 = .ok (.iload_n 1, 1) := by decide +kernel
theorem dX6_fact_22 : decode cX6_fact 22 = .ok (.iconst 1, 1) := by decide +kernel
theorem dX6_fact_23 : decode cX6_fact 23 = .ok (.iadd, 1) := by decide +kernel
theorem dX6_fact_24 : decode cX6_fact 24 = .ok (.invokevirtual 88, 3) := by decide +kernel
theorem dX6_fact_27 : decode cX6_fact 27 = .ok (.ifCond .eq 15, 3) := by decide +kernel
theorem dX6_fact_30 : decode cX6_fact 30 = .ok (.aload_n 0, 1) := by decide +kernel
theorem dX6_fact_31 : decode cX6_fact 31 = .ok (.iconst 2, 1) := by decide +kernel
theorem dX6_fact_32 : decode cX6_fact 32 = .ok (.invokevirtual 85, 3) := by decide +kernel
theorem dX6_fact_35 : decode cX6_fact 35 = .ok (.ifCond .eq 7, 3) := by decide +kernel
theorem dX6_fact_38 : decode cX6_fact 38 = .ok (.iconst 1, 1) := by decide +kernel
theorem dX6_fact_39 : decode cX6_fact 39 = .ok (.goto 4, 3) := by decide +kernel
theorem dX6_fact_42 : decode cX6_fact 42 = .ok (.iconst 0, 1) := by decide +kernel
theorem dX6_fact_43 : decode cX6_fact 43 = .ok (.ireturn, 1) := by decide +kernel
theorem dX6_fact_44 : decode cX6_fact 44 = .ok (.aload_n 0, 1) := by decide +kernel
theorem dX6_fact_45 : decode cX6_fact 45 = .ok (.getfield 19, 3) := by decide +kernel
theorem dX6_fact_48 : decode cX6_fact 48 = .ok (.bipush 91, 2) := by decide +kernel
theorem dX6_fact_50 : decode cX6_fact 50 = .ok (.invokevirtual 98, 3) := by decide +kernel
theorem dX6_fact_53 : decode cX6_fact 53 = .ok (.ifCond .eq 39, 3) := by decide +kernel
theorem dX6_fact_56 : decode cX6_fact 56 = .ok (.aload_n 0, 1) := by decide +kernel
theorem dX6_fact_57 : decode cX6_fact 57 = .ok (.iload_n 1, 1) := by decide +kernel
theorem dX6_fact_58 : decode cX6_fact 58 = .ok (.invokevirtual 95, 3) := by decide +kernel
theorem dX6_fact_61 : decode cX6_fact 61 = .ok (.ifCond .eq 29, 3) := by decide +kernel
theorem dX6_fact_64 : decode cX6_fact 64 = .ok (.aload_n 0, 1) := by decide +kernel
theorem dX6_fact_65 : decode cX6_fact 65 = .ok (.iload_n 1, 1) := by decide +kernel
theorem dX6_fact_66 : decode cX6_fact 66 = .ok (.iconst 1, 1) := by decide +kernel
theorem dX6_fact_67 : decode cX6_fact 67 = .ok (.iadd, 1) := by decide +kernel
theorem dX6_fact_68 : decode cX6_fact 68 = .ok (.invokevirtual 32, 3) := by decide +kernel
theorem dX6_fact_71 : decode cX6_fact 71 = .ok (.ifCond .eq 19, 3) := by decide +kernel
theorem dX6_fact_74 : decode cX6_fact 74 = .ok (.aload_n 0, 1) := by decide +kernel
theorem dX6_fact_75 : decode cX6_fact 75 = .ok (.getfield 19, 3) := by decide +kernel
theorem dX6_fact_78 : decode cX6_fact 78 = .ok (.bipush 93, 2) := by decide +kernel
theorem dX6_fact_80 : decode cX6_fact 80 = .ok (.invokevirtual 102, 3) := by decide +kernel
theorem dX6_fact_83 : decode cX6_fact 83 = .ok (.ifCond .eq 7, 3) := by decide +kernel
theorem dX6_fact_86 : decode cX6_fact 86 = .ok (.iconst 1, 1) := by decide +kernel
theorem dX6_fact_87 : decode cX6_fact 87 = .ok (.goto 4, 3) := by decide +kernel
theorem dX6_fact_90 : decode cX6_fact 90 = .ok (.iconst 0, 1) := by decide +kernel
theorem dX6_fact_91 : decode cX6_fact 91 = .ok (.ireturn, 1) := by decide +kernel
theorem dX6_fact_92 : decode cX6_fact 92 = .ok (.aload_n 0, 1) := by decide +kernel
theorem dX6_fact_93 : decode cX6_fact 93 = .ok (.getfield 19, 3) := by decide +kernel
theorem dX6_fact_96 : decode cX6_fact 96 = .ok (.ldc 105, 2) := by decide +kernel
theorem dX6_fact_98 : decode cX6_fact 98 = .ok (.invokevirtual 62, 3) := by decide +kernel
theorem dX6_fact_101 : decode cX6_fact 101 = .ok (.ifCond .eq 17, 3) := by decide +kernel
theorem dX6_fact_104 : decode cX6_fact 104 = .ok (.aload_n 0, 1) := by decide +kernel
theorem dX6_fact_105 : decode cX6_fact 105 = .ok (.getfield 19, 3) := by decide +kernel
theorem dX6_fact_108 : decode cX6_fact 108 = .ok (.invokevirtual 47, 3) := by decide +kernel
theorem dX6_fact_111 : decode cX6_fact 111 = .ok (.aload_n 0, 1) := by decide +kernel
theorem dX6_fact_112 : decode cX6_fact 112 = .ok (.iconst 0, 1) := by decide +kernel
theorem dX6_fact_113 : decode cX6_fact 113 = .ok (.iconst 1, 1) := by decide +kernel
theorem dX6_fact_114 : decode cX6_fact 114 = .ok (.invokevirtual 107, 3) := by decide +kernel
theorem dX6_fact_117 : decode cX6_fact 117 = .ok (.ireturn, 1) := by decide +kernel
theorem dX6_fact_118 : decode cX6_fact 118 = .ok (.aload_n 0, 1) := by decide +kernel
theorem dX6_fact_119 : decode cX6_fact 119 = .ok (.iload_n 1, 1) := by decide +kernel
theorem dX6_fact_120 : decode cX6_fact 120 = .ok (.invokevirtual 28, 3) := by decide +kernel
theorem dX6_fact_123 : decode cX6_fact 123 = .ok (.ifCond .ne 5, 3) := by decide +kernel
theorem dX6_fact_126 : decode cX6_fact 126 = .ok (.iconst 0, 1) := by decide +kernel
theorem dX6_fact_127 : decode cX6_fact 127 = .ok (.ireturn, 1) := by decide +kernel
theorem dX6_fact_128 : decode cX6_fact 128 = .ok (.aload_n 0, 1) := by decide +kernel
theorem dX6_fact_129 : decode cX6_fact 129 = .ok (.invokevirtual 111, 3) := by decide +kernel
theorem dX6_fact_132 : decode cX6_fact 132 = .ok (.istore_n 2, 1) := by decide +kernel
theorem dX6_fact_133 : decode cX6_fact 133 = .ok (.iload_n 2, 1) := by decide +kernel
theorem dX6_fact_134 : decode cX6_fact 134 = .ok (.iconst (-1), 1) := by decide +kernel
theorem dX6_fact_135 : decode cX6_fact 135 = .ok (.if_icmp .ne 12, 3) := by decide +kernel
theorem dX6_fact_138 : decode cX6_fact 138 = .ok (.aload_n 0, 1) := by decide +kernel
theorem dX6_fact_139 : decode cX6_fact 139 = .ok (.getfield 19, 3) := by decide +kernel
theorem dX6_fact_142 : decode cX6_fact 142 = .ok (.iconst 1, 1) := by decide +kernel
theorem dX6_fact_143 : decode cX6_fact 143 = .ok (.invokevirtual 44, 3) := by decide +kernel
theorem dX6_fact_146 : decode cX6_fact 146 = .ok (.ireturn, 1) := by decide +kernel
theorem dX6_fact_147 : decode cX6_fact 147 = .ok (.aload_n 0, 1) := by decide +kernel
theorem dX6_fact_148 : decode cX6_fact 148 = .ok (.getfield 19, 3) := by decide +kernel
theorem dX6_fact_151 : decode cX6_fact 151 = .ok (.invokevirtual 47, 3) := by decide +kernel
theorem dX6_fact_154 : decode cX6_fact 154 = .ok (.aload_n 0, 1) := by decide +kernel
theorem dX6_fact_155 : decode cX6_fact 155 = .ok (.iload_n 1, 1) := by decide +kernel
theorem dX6_fact_156 : decode cX6_fact 156 = .ok (.invokevirtual 28, 3) := by decide +kernel
theorem dX6_fact_159 : decode cX6_fact 159 = .ok (.ifCond .eq 15, 3) := by decide +kernel
theorem dX6_fact_162 : decode cX6_fact 162 = .ok (.aload_n 0, 1) := by decide +kernel
theorem dX6_fact_163 : decode cX6_fact 163 = .ok (.iload_n 2, 1) := by decide +kernel
theorem dX6_fact_164 : decode cX6_fact 164 = .ok (.invokevirtual 85, 3) := by decide +kernel
theorem dX6_fact_167 : decode cX6_fact 167 = .ok (.ifCond .eq 7, 3) := by decide +kernel
theorem dX6_fact_170 : decode cX6_fact 170 = .ok (.iconst 1, 1) := by decide +kernel
theorem dX6_fact_171 : decode cX6_fact 171 = .ok (.goto 4, 3) := by decide +kernel
theorem dX6_fact_174 : decode cX6_fact 174 = .ok (.iconst 0, 1) := by decide +kernel
theorem dX6_fact_175 : decode cX6_fact 175 = .ok (.ireturn, 1) := by decide +kernel
theorem dX6_sum_0 : decode cX6_sum 0 = .ok (.aload_n 0, 1) := by decide +kernel
theorem dX6_sum_1 : decode cX6_sum 1 = .ok (.iload_n 1, 1) := by decide +kernel
theorem dX6_sum_2 : decode cX6_sum 2 = .ok (.invokevirtual 114, 3) := by decide +kernel
theorem dX6_sum_5 : decode cX6_sum 5 = .ok (.ifCond .ne 5, 3) := by decide +kernel
theorem dX6_sum_8 : decode cX6_sum 8 = .ok (.iconst 0, 1) := by decide +kernel
theorem dX6_sum_9 : decode cX6_sum 9 = .ok (.ireturn, 1) := by decide +kernel
theorem dX6_sum_10 : decode cX6_sum 10 = .ok (.iconst 0, 1) := by decide +kernel
theorem dX6_sum_11 : decode cX6_sum 11 = .ok (.istore_n 2, 1) := by decide +kernel
theorem dX6_sum_12 : decode cX6_sum 12 = .ok (.iload_n 2, 1) := by decide +kernel
theorem dX6_sum_13 : decode cX6_sum 13 = .ok (.sipush 1600, 3) := by decide +kernel
theorem dX6_sum_16 : decode cX6_sum 16 = .ok (.if_icmp .ge 75, 3) := by decide +kernel
theorem dX6_sum_19 : decode cX6_sum 19 = .ok (.aload_n 0, 1) := by decide +kernel
theorem dX6_sum_20 : decode cX6_sum 20 = .ok (.getfield 19, 3) := by decide +kernel
theorem dX6_sum_23 : decode cX6_sum 23 = .ok (.bipush 43, 2) := by decide +kernel
theorem dX6_sum_25 : decode cX6_sum 25 = .ok (.invokevirtual 98, 3) := by decide +kernel
theorem dX6_sum_28 : decode cX6_sum 28 = .ok (.ifCond .ne 15, 3) := by decide +kernel
theorem dX6_sum_31 : decode cX6_sum 31 = .ok (.aload_n 0, 1) := by decide +kernel
theorem dX6_sum_32 : decode cX6_sum 32 = .ok (.getfield 19, 3) := by decide +kernel
theorem dX6_sum_35 : decode cX6_sum 35 = .ok (.bipush 45, 2) := by decide +kernel
theorem dX6_sum_37 : decode cX6_sum 37 = .ok (.invokevirtual 98, 3) := by decide +kernel
theorem dX6_sum_40 : decode cX6_sum 40 = .ok (.ifCond .eq 51, 3) := by decide +kernel
theorem dX6_sum_43 : decode cX6_sum 43 = .ok (.aload_n 0, 1) := by decide +kernel
theorem dX6_sum_44 : decode cX6_sum 44 = .ok (.getfield 19, 3) := by decide +kernel
theorem dX6_sum_47 : decode cX6_sum 47 = .ok (.bipush 43, 2) := by decide +kernel
theorem dX6_sum_49 : decode cX6_sum 49 = .ok (.invokevirtual 98, 3) := by decide +kernel
theorem dX6_sum_52 : decode cX6_sum 52 = .ok (.ifCond .eq 7, 3) := by decide +kernel
theorem dX6_sum_55 : decode cX6_sum 55 = .ok (.iconst 5, 1) := by decide +kernel
theorem dX6_sum_56 : decode cX6_sum 56 = .ok (.goto 5, 3) := by decide +kernel
theorem dX6_sum_59 : decode cX6_sum 59 = .ok (.bipush 6, 2) := by decide +kernel
theorem dX6_sum_61 : decode cX6_sum 61 = .ok (.istore_n 3, 1) := by decide +kernel
theorem dX6_sum_62 : decode cX6_sum 62 = .ok (.aload_n 0, 1) := by decide +kernel
theorem dX6_sum_63 : decode cX6_sum 63 = .ok (.getfield 19, 3) := by decide +kernel
theorem dX6_sum_66 : decode cX6_sum 66 = .ok (.invokevirtual 47, 3) := by decide +kernel
theorem dX6_sum_69 : decode cX6_sum 69 = .ok (.aload_n 0, 1) := by decide +kernel
theorem dX6_sum_70 : decode cX6_sum 70 = .ok (.iload_n 1, 1) := by decide +kernel
theorem dX6_sum_71 : decode cX6_sum 71 = .ok (.invokevirtual 114, 3) := by decide +kernel
theorem dX6_sum_74 : decode cX6_sum 74 = .ok (.ifCond .ne 5, 3) := by decide +kernel
theorem dX6_sum_77 : decode cX6_sum 77 = .ok (.iconst 0, 1) := by decide +kernel
theorem dX6_sum_78 : decode cX6_sum 78 = .ok (.ireturn, 1) := by decide +kernel
theorem dX6_sum_79 : decode cX6_sum 79 = .ok (.aload_n 0, 1) := by decide +kernel
theorem dX6_sum_80 : decode cX6_sum 80 = .ok (.iload_n 3, 1) := by decide +kernel
theorem dX6_sum_81 : decode cX6_sum 81 = .ok (.invokevirtual 85, 3) := by decide +kernel
theorem dX6_sum_84 : decode cX6_sum 84 = .ok (.pop, 1) := by decide +kernel
theorem dX6_sum_85 : decode cX6_sum 85 = .ok (.iinc 2 1, 3) := by decide +kernel
theorem dX6_sum_88 : decode cX6_sum 88 = .ok (.goto (-76), 3) := by decide +kernel
theorem dX6_sum_91 : decode cX6_sum 91 = .ok (.iconst 1, 1) := by decide +kernel
theorem dX6_sum_92 : decode cX6_sum 92 = .ok (.ireturn, 1) := by decide +kernel
theorem dX6_product_0 : decode cX6_product 0 = .ok (.aload_n 0, 1) := by decide +kernel
theorem dX6_product_1 : decode cX6_product 1 = .ok (.iload_n 1, 1) := by decide +kernel
theorem dX6_product_2 : decode cX6_product 2 = .ok (.invokevirtual 117, 3) := by decide +kernel
theorem dX6_product_5 : decode cX6_product 5 = .ok (.ifCond .ne 5, 3) := by decide +kernel
theorem dX6_product_8 : decode cX6_product 8 = .ok (.iconst 0, 1) := by decide +kernel
theorem dX6_product_9 : decode cX6_product 9 = .ok (.ireturn, 1) := by decide +kernel
theorem dX6_product_10 : decode cX6_product 10 = .ok (.iconst 0, 1) := by decide +kernel
theorem dX6_product_11 : decode cX6_product 11 = .ok (.istore_n 2, 1) := by decide +kernel
theorem dX6_product_12 : decode cX6_product 12 = .ok (.iload_n 2, 1) := by decide +kernel
theorem dX6_product_13 : decode cX6_product 13 = .ok (.sipush 1600, 3) := by decide +kernel
theorem dX6_product_16 : decode cX6_product 16 = .ok (.if_icmp .ge 76, 3) := by decide +kernel
theorem dX6_product_19 : decode cX6_product 19 = .ok (.aload_n 0, 1) := by decide +kernel
theorem dX6_product_20 : decode cX6_product 20 = .ok (.getfield 19, 3) := by decide +kernel
theorem dX6_product_23 : decode cX6_product 23 = .ok (.bipush 42, 2) := by decide +kernel
theorem dX6_product_25 : decode cX6_product 25 = .ok (.invokevirtual 98, 3) := by decide +kernel
theorem dX6_product_28 : decode cX6_product 28 = .ok (.ifCond .ne 15, 3) := by decide +kernel
theorem dX6_product_31 : decode cX6_product 31 = .ok (.aload_n 0, 1) := by decide +kernel
theorem dX6_product_32 : decode cX6_product 32 = .ok (.getfield 19, 3) := by decide +kernel
theorem dX6_product_35 : decode cX6_product 35 = .ok (.bipush 47, 2) := by decide +kernel
theorem dX6_product_37 : decode cX6_product 37 = .ok (.invokevirtual 98, 3) := by decide +kernel
theorem dX6_product_40 : decode cX6_product 40 = .ok (.ifCond .eq 52, 3) := by decide +kernel
theorem dX6_product_43 : decode cX6_product 43 = .ok (.aload_n 0, 1) := by decide +kernel
theorem dX6_product_44 : decode cX6_product 44 = .ok (.getfield 19, 3) := by decide +kernel
theorem dX6_product_47 : decode cX6_product 47 = .ok (.bipush 42, 2) := by decide +kernel
theorem dX6_product_49 : decode cX6_product 49 = .ok (.invokevirtual 98, 3) := by decide +kernel
theorem dX6_product_52 : decode cX6_product 52 = .ok (.ifCond .eq 8, 3) := by decide +kernel
theorem dX6_product_55 : decode cX6_product 55 = .ok (.bipush 7, 2) := by decide +kernel
theorem dX6_product_57 : decode cX6_product 57 = .ok (.goto 5, 3) := by decide +kernel
theorem dX6_product_60 : decode cX6_product 60 = .ok (.bipush 8, 2) := by decide +kernel
theorem dX6_product_62 : decode cX6_product 62 = .ok (.istore_n 3, 1) := by decide +kernel
theorem dX6_product_63 : decode cX6_product 63 = .ok (.aload_n 0, 1) := by decide +kernel
theorem dX6_product_64 : decode cX6_product 64 = .ok (.getfield 19, 3) := by decide +kernel
theorem dX6_product_67 : decode cX6_product 67 = .ok (.invokevirtual 47, 3) := by decide +kernel
theorem dX6_product_70 : decode cX6_product 70 = .ok (.aload_n 0, 1) := by decide +kernel
theorem dX6_product_71 : decode cX6_product 71 = .ok (.iload_n 1, 1) := by decide +kernel
theorem dX6_product_72 : decode cX6_product 72 = .ok (.invokevirtual 117, 3) := by decide +kernel
theorem dX6_product_75 : decode cX6_product 75 = .ok (.ifCond .ne 5, 3) := by decide +kernel
theorem dX6_product_78 : decode cX6_product 78 = .ok (.iconst 0, 1) := by decide +kernel
theorem dX6_product_79 : decode cX6_product 79 = .ok (.ireturn, 1) := by decide +kernel
theorem dX6_product_80 : decode cX6_product 80 = .ok (.aload_n 0, 1) := by decide +kernel
theorem dX6_product_81 : decode cX6_product 81 = .ok (.iload_n 3, 1) := by decide +kernel
theorem dX6_product_82 : decode cX6_product 82 = .ok (.invokevirtual 85, 3) := by decide +kernel
theorem dX6_product_85 : decode cX6_product 85 = .ok (.pop, 1) := by decide +kernel
theorem dX6_product_86 : decode cX6_product 86 = .ok (.iinc 2 1, 3) := by decide +kernel
theorem dX6_product_89 : decode cX6_product 89 = .ok (.goto (-77), 3) := by decide +kernel
theorem dX6_product_92 : decode cX6_product 92 = .ok (.iconst 1, 1) := by decide +kernel
theorem dX6_product_93 : decode cX6_product 93 = .ok (.ireturn, 1) := by decide +kernel
theorem dX6_part_0 : decode cX6_part 0 = .ok (.aload_n 0, 1) := by decide +kernel
theorem dX6_part_1 : decode cX6_part 1 = .ok (.getfield 19, 3) := by decide +kernel
theorem dX6_part_4 : decode cX6_part 4 = .ok (.getfield 57, 3) := by decide +kernel
theorem dX6_part_7 : decode cX6_part 7 = .ok (.iconst 2, 1) := by decide +kernel
theorem dX6_part_8 : decode cX6_part 8 = .ok (.if_icmp .ne 38, 3) := by decide +kernel
theorem dX6_part_11 : decode cX6_part 11 = .ok (.aload_n 0, 1) := by decide +kernel
theorem dX6_part_12 : decode cX6_part 12 = .ok (.getfield 19, 3) := by decide +kernel
theorem dX6_part_15 : decode cX6_part 15 = .ok (.invokevirtual 120, 3) := by decide +kernel
theorem dX6_part_18 : decode cX6_part 18 = .ok (.istore_n 2, 1) := by decide +kernel
theorem dX6_part_19 : decode cX6_part 19 = .ok (.aload_n 0, 1) := by decide +kernel
theorem dX6_part_20 : decode cX6_part 20 = .ok (.getfield 19, 3) := by decide +kernel
theorem dX6_part_23 : decode cX6_part 23 = .ok (.invokevirtual 47, 3) := by decide +kernel
theorem dX6_part_26 : decode cX6_part 26 = .ok (.iload_n 2, 1) := by decide +kernel
theorem dX6_part_27 : decode cX6_part 27 = .ok (.iconst (-1), 1) := by decide +kernel
theorem dX6_part_28 : decode cX6_part 28 = .ok (.if_icmp .eq 16, 3) := by decide +kernel
theorem dX6_part_31 : decode cX6_part 31 = .ok (.aload_n 0, 1) := by decide +kernel
theorem dX6_part_32 : decode cX6_part 32 = .ok (.iconst 0, 1) := by decide +kernel
theorem dX6_part_33 : decode cX6_part 33 = .ok (.iload_n 2, 1) := by decide +kernel
theorem dX6_part_34 : decode cX6_part 34 = .ok (.invokevirtual 107, 3) := by decide +kernel
theorem dX6_part_37 : decode cX6_part 37 = .ok (.ifCond .eq 7, 3) := by decide +kernel
theorem dX6_part_40 : decode cX6_part 40 = .ok (.iconst 1, 1) := by decide +kernel
theorem dX6_part_41 : decode cX6_part 41 = .ok (.goto 4, 3) := by decide +kernel
theorem dX6_part_44 : decode cX6_part 44 = .ok (.iconst 0, 1) := by decide +kernel
theorem dX6_part_45 : decode cX6_part 45 = .ok (.ireturn, 1) := by decide +kernel
theorem dX6_part_46 : decode cX6_part 46 = .ok (.aload_n 0, 1) := by decide +kernel
theorem dX6_part_47 : decode cX6_part 47 = .ok (.getfield 19, 3) := by decide +kernel
theorem dX6_part_50 : decode cX6_part 50 = .ok (.bipush 40, 2) := by decide +kernel
theorem dX6_part_52 : decode cX6_part 52 = .ok (.invokevirtual 98, 3) := by decide +kernel
theorem dX6_part_55 : decode cX6_part 55 = .ok (.ifCond .eq 39, 3) := by decide +kernel
theorem dX6_part_58 : decode cX6_part 58 = .ok (.aload_n 0, 1) := by decide +kernel
theorem dX6_part_59 : decode cX6_part 59 = .ok (.iload_n 1, 1) := by decide +kernel
theorem dX6_part_60 : decode cX6_part 60 = .ok (.invokevirtual 95, 3) := by decide +kernel
theorem dX6_part_63 : decode cX6_part 63 = .ok (.ifCond .eq 29, 3) := by decide +kernel
theorem dX6_part_66 : decode cX6_part 66 = .ok (.aload_n 0, 1) := by decide +kernel
theorem dX6_part_67 : decode cX6_part 67 = .ok (.iload_n 1, 1) := by decide +kernel
theorem dX6_part_68 : decode cX6_part 68 = .ok (.iconst 1, 1) := by decide +kernel
theorem dX6_part_69 : decode cX6_part 69 = .ok (.iadd, 1) := by decide +kernel
theorem dX6_part_70 : decode cX6_part 70 = .ok (.invokevirtual 28, 3) := by decide +kernel
theorem dX6_part_73 : decode cX6_part 73 = .ok (.ifCond .eq 19, 3) := by decide +kernel
theorem dX6_part_76 : decode cX6_part 76 = .ok (.aload_n 0, 1) := by decide +kernel
theorem dX6_part_77 : decode cX6_part 77 = .ok (.getfield 19, 3) := by decide +kernel
theorem dX6_part_80 : decode cX6_part 80 = .ok (.bipush 41, 2) := by decide +kernel
theorem dX6_part_82 : decode cX6_part 82 = .ok (.invokevirtual 102, 3) := by decide +kernel
theorem dX6_part_85 : decode cX6_part 85 = .ok (.ifCond .eq 7, 3) := by decide +kernel
theorem dX6_part_88 : decode cX6_part 88 = .ok (.iconst 1, 1) := by decide +kernel
theorem dX6_part_89 : decode cX6_part 89 = .ok (.goto 4, 3) := by decide +kernel
theorem dX6_part_92 : decode cX6_part 92 = .ok (.iconst 0, 1) := by decide +kernel
theorem dX6_part_93 : decode cX6_part 93 = .ok (.ireturn, 1) := by decide +kernel
theorem dX6_part_94 : decode cX6_part 94 = .ok (.aload_n 0, 1) := by decide +kernel
theorem dX6_part_95 : decode cX6_part 95 = .ok (.getfield 19, 3) := by decide +kernel
theorem dX6_part_98 : decode cX6_part 98 = .ok (.ldc 123, 2) := by decide +kernel
theorem dX6_part_100 : decode cX6_part 100 = .ok (.invokevirtual 62, 3) := by decide +kernel
theorem dX6_part_103 : decode cX6_part 103 = .ok (.ifCond .eq 11, 3) := by decide +kernel
theorem dX6_part_106 : decode cX6_part 106 = .ok (.aload_n 0, 1) := by decide +kernel
theorem dX6_part_107 : decode cX6_part 107 = .ok (.iload_n 1, 1) := by decide +kernel
theorem dX6_part_108 : decode cX6_part 108 = .ok (.bipush 9, 2) := by decide +kernel
theorem dX6_part_110 : decode cX6_part 110 = .ok (.invokevirtual 125, 3) := by decide +kernel
theorem dX6_part_113 : decode cX6_part 113 = .ok (.ireturn, 1) := by decide +kernel
theorem dX6_part_114 : decode cX6_part 114 = .ok (.aload_n 0, 1) := by decide +kernel
theorem dX6_part_115 : decode cX6_part 115 = .ok (.getfield 19, 3) := by decide +kernel
theorem dX6_part_118 : decode cX6_part 118 = .ok (.ldc 128, 2) := by decide +kernel
theorem dX6_part_120 : decode cX6_part 120 = .ok (.invokevirtual 62, 3) := by decide +kernel
theorem dX6_part_123 : decode cX6_part 123 = .ok (.ifCond .eq 11, 3) := by decide +kernel
theorem dX6_part_126 : decode cX6_part 126 = .ok (.aload_n 0, 1) := by decide +kernel
theorem dX6_part_127 : decode cX6_part 127 = .ok (.iload_n 1, 1) := by decide +kernel
theorem dX6_part_128 : decode cX6_part 128 = .ok (.bipush 10, 2) := by decide +kernel
theorem dX6_part_130 : decode cX6_part 130 = .ok (.invokevirtual 125, 3) := by decide +kernel
theorem dX6_part_133 : decode cX6_part 133 = .ok (.ireturn, 1) := by decide +kernel
theorem dX6_part_134 : decode cX6_part 134 = .ok (.aload_n 0, 1) := by decide +kernel
theorem dX6_part_135 : decode cX6_part 135 = .ok (.getfield 15, 3) := by decide +kernel
theorem dX6_part_138 : decode cX6_part 138 = .ok (.iconst 2, 1) := by decide +kernel
theorem dX6_part_139 : decode cX6_part 139 = .ok (.if_icmp .ne 47, 3) := by decide +kernel
theorem dX6_part_142 : decode cX6_part 142 = .ok (.aload_n 0, 1) := by decide +kernel
theorem dX6_part_143 : decode cX6_part 143 = .ok (.getfield 19, 3) := by decide +kernel
theorem dX6_part_146 : decode cX6_part 146 = .ok (.ldc 130, 2) := by decide +kernel
theorem dX6_part_148 : decode cX6_part 148 = .ok (.invokevirtual 62, 3) := by decide +kernel
theorem dX6_part_151 : decode cX6_part 151 = .ok (.ifCond .eq 35, 3) := by decide +kernel
theorem dX6_part_154 : decode cX6_part 154 = .ok (.aload_n 0, 1) := by decide +kernel
theorem dX6_part_155 : decode cX6_part 155 = .ok (.iload_n 1, 1) := by decide +kernel
theorem dX6_part_156 : decode cX6_part 156 = .ok (.invokevirtual 95, 3) := by decide +kernel
theorem dX6_part_159 : decode cX6_part 159 = .ok (.ifCond .eq 25, 3) := by decide +kernel
theorem dX6_part_162 : decode cX6_part 162 = .ok (.aload_n 0, 1) := by decide +kernel
theorem dX6_part_163 : decode cX6_part 163 = .ok (.iload_n 1, 1) := by decide +kernel
theorem dX6_part_164 : decode cX6_part 164 = .ok (.iconst 1, 1) := by decide +kernel
theorem dX6_part_165 : decode cX6_part 165 = .ok (.iadd, 1) := by decide +kernel
theorem dX6_part_166 : decode cX6_part 166 = .ok (.invokevirtual 117, 3) := by decide +kernel
theorem dX6_part_169 : decode cX6_part 169 = .ok (.ifCond .eq 15, 3) := by decide +kernel
theorem dX6_part_172 : decode cX6_part 172 = .ok (.aload_n 0, 1) := by decide +kernel
theorem dX6_part_173 : decode cX6_part 173 = .ok (.iconst 3, 1) := by decide +kernel
theorem dX6_part_174 : decode cX6_part 174 = .ok (.invokevirtual 85, 3) := by decide +kernel
theorem dX6_part_177 : decode cX6_part 177 = .ok (.ifCond .eq 7, 3) := by decide +kernel
theorem dX6_part_180 : decode cX6_part 180 = .ok (.iconst 1, 1) := by decide +kernel
theorem dX6_part_181 : decode cX6_part 181 = .ok (.goto 4, 3) := by decide +kernel
theorem dX6_part_184 : decode cX6_part 184 = .ok (.iconst 0, 1) := by decide +kernel
theorem dX6_part_185 : decode cX6_part 185 = .ok (.ireturn, 1) := by decide +kernel
theorem dX6_part_186 : decode cX6_part 186 = .ok (.aload_n 0, 1) := by decide +kernel
theorem dX6_part_187 : decode cX6_part 187 = .ok (.getfield 15, 3) := by decide +kernel
theorem dX6_part_190 : decode cX6_part 190 = .ok (.iconst 2, 1) := by decide +kernel
theorem dX6_part_191 : decode cX6_part 191 = .ok (.if_icmp .ne 47, 3) := by decide +kernel
theorem dX6_part_194 : decode cX6_part 194 = .ok (.aload_n 0, 1) := by decide +kernel
theorem dX6_part_195 : decode cX6_part 195 = .ok (.getfield 19, 3) := by decide +kernel
theorem dX6_part_198 : decode cX6_part 198 = .ok (.ldc 132, 2) := by decide +kernel
theorem dX6_part_200 : decode cX6_part 200 = .ok (.invokevirtual 62, 3) := by decide +kernel
theorem dX6_part_203 : decode cX6_part 203 = .ok (.ifCond .eq 35, 3) := by decide +kernel
theorem dX6_part_206 : decode cX6_part 206 = .ok (.aload_n 0, 1) := by decide +kernel
theorem dX6_part_207 : decode cX6_part 207 = .ok (.iload_n 1, 1) := by decide +kernel
theorem dX6_part_208 : decode cX6_part 208 = .ok (.invokevirtual 95, 3) := by decide +kernel
theorem dX6_part_211 : decode cX6_part 211 = .ok (.ifCond .eq 25, 3) := by decide +kernel
theorem dX6_part_214 : decode cX6_part 214 = .ok (.aload_n 0, 1) := by decide +kernel
theorem dX6_part_215 : decode cX6_part 215 = .ok (.iload_n 1, 1) := by decide +kernel
theorem dX6_part_216 : decode cX6_part 216 = .ok (.iconst 1, 1) := by decide +kernel
theorem dX6_part_217 : decode cX6_part 217 = .ok (.iadd, 1) := by decide +kernel
theorem dX6_part_218 : decode cX6_part 218 = .ok (.invokevirtual 117, 3) := by decide +kernel
theorem dX6_part_221 : decode cX6_part 221 = .ok (.ifCond .eq 15, 3) := by decide +kernel
theorem dX6_part_224 : decode cX6_part 224 = .ok (.aload_n 0, 1) := by decide +kernel
theorem dX6_part_225 : decode cX6_part 225 = .ok (.iconst 4, 1) := by decide +kernel
theorem dX6_part_226 : decode cX6_part 226 = .ok (.invokevirtual 85, 3) := by decide +kernel
theorem dX6_part_229 : decode cX6_part 229 = .ok (.ifCond .eq 7, 3) := by decide +kernel
theorem dX6_part_232 : decode cX6_part 232 = .ok (.iconst 1, 1) := by decide +kernel
theorem dX6_part_233 : decode cX6_part 233 = .ok (.goto 4, 3) := by decide +kernel
theorem dX6_part_236 : decode cX6_part 236 = .ok (.iconst 0, 1) := by decide +kernel
theorem dX6_part_237 : decode cX6_part 237 = .ok (.ireturn, 1) := by decide +kernel
theorem dX6_part_238 : decode cX6_part 238 = .ok (.aload_n 0, 1) := by decide +kernel
theorem dX6_part_239 : decode cX6_part 239 = .ok (.getfield 15, 3) := by decide +kernel
theorem dX6_part_242 : decode cX6_part 242 = .ok (.iconst 2, 1) := by decide +kernel
theorem dX6_part_243 : decode cX6_part 243 = .ok (.if_icmp .ne 10, 3) := by decide +kernel
theorem dX6_part_246 : decode cX6_part 246 = .ok (.aload_n 0, 1) := by decide +kernel
theorem dX6_part_247 : decode cX6_part 247 = .ok (.invokevirtual 134, 3) := by decide +kernel
theorem dX6_part_250 : decode cX6_part 250 = .ok (.goto 7, 3) := by decide +kernel
theorem dX6_part_253 : decode cX6_part 253 = .ok (.aload_n 0, 1) := by decide +kernel
theorem dX6_part_254 : decode cX6_part 254 = .ok (.invokevirtual 137, 3) := by decide +kernel
theorem dX6_part_257 : decode cX6_part 257 = .ok (.istore_n 2, 1) := by decide +kernel
theorem dX6_part_258 : decode cX6_part 258 = .ok (.iload_n 2, 1) := by decide +kernel
theorem dX6_part_259 : decode cX6_part 259 = .ok (.iconst (-1), 1) := by decide +kernel
theorem dX6_part_260 : decode cX6_part 260 = .ok (.if_icmp .ne 12, 3) := by decide +kernel
theorem dX6_part_263 : decode cX6_part 263 = .ok (.aload_n 0, 1) := by decide +kernel
theorem dX6_part_264 : decode cX6_part 264 = .ok (.getfield 19, 3) := by decide +kernel
theorem dX6_part_267 : decode cX6_part 267 = .ok (.iconst 1, 1) := by decide +kernel
theorem dX6_part_268 : decode cX6_part 268 = .ok (.invokevirtual 44, 3) := by decide +kernel
theorem dX6_part_271 : decode cX6_part 271 = .ok (.ireturn, 1) := by decide +kernel
theorem dX6_part_272 : decode cX6_part 272 = .ok (.aload_n 0, 1) := by decide +kernel
theorem dX6_part_273 : decode cX6_part 273 = .ok (.getfield 19, 3) := by decide +kernel
theorem dX6_part_276 : decode cX6_part 276 = .ok (.invokevirtual 47, 3) := by decide +kernel
theorem dX6_part_279 : decode cX6_part 279 = .ok (.aload_n 0, 1) := by decide +kernel
theorem dX6_part_280 : decode cX6_part 280 = .ok (.iconst 1, 1) := by decide +kernel
theorem dX6_part_281 : decode cX6_part 281 = .ok (.iload_n 2, 1) := by decide +kernel
theorem dX6_part_282 : decode cX6_part 282 = .ok (.invokevirtual 107, 3) := by decide +kernel
theorem dX6_part_285 : decode cX6_part 285 = .ok (.ireturn, 1) := by decide +kernel
theorem dX6_pair_0 : decode cX6_pair 0 = .ok (.aload_n 0, 1) := by decide +kernel
theorem dX6_pair_1 : decode cX6_pair 1 = .ok (.getfield 19, 3) := by decide +kernel
theorem dX6_pair_4 : decode cX6_pair 4 = .ok (.invokevirtual 47, 3) := by decide +kernel
theorem dX6_pair_7 : decode cX6_pair 7 = .ok (.aload_n 0, 1) := by decide +kernel
theorem dX6_pair_8 : decode cX6_pair 8 = .ok (.getfield 19, 3) := by decide +kernel
theorem dX6_pair_11 : decode cX6_pair 11 = .ok (.bipush 40, 2) := by decide +kernel
theorem dX6_pair_13 : decode cX6_pair 13 = .ok (.invokevirtual 98, 3) := by decide +kernel
theorem dX6_pair_16 : decode cX6_pair 16 = .ok (.ifCond .ne 12, 3) := by decide +kernel
theorem dX6_pair_19 : decode cX6_pair 19 = .ok (.aload_n 0, 1) := by decide +kernel
theorem dX6_pair_20 : decode cX6_pair 20 = .ok (.getfield 19, 3) := by decide +kernel
theorem dX6_pair_23 : decode cX6_pair 23 = .ok (.iconst 1, 1) := by decide +kernel
theorem dX6_pair_24 : decode cX6_pair 24 = .ok (.invokevirtual 44, 3) := by decide +kernel
theorem dX6_pair_27 : decode cX6_pair 27 = .ok (.ireturn, 1) := by decide +kernel
theorem dX6_pair_28 : decode cX6_pair 28 = .ok (.aload_n 0, 1) := by decide +kernel
theorem dX6_pair_29 : decode cX6_pair 29 = .ok (.iload_n 1, 1) := by decide +kernel
theorem dX6_pair_30 : decode cX6_pair 30 = .ok (.invokevirtual 95, 3) := by decide +kernel
theorem dX6_pair_33 : decode cX6_pair 33 = .ok (.ifCond .eq 59, 3) := by decide +kernel
theorem dX6_pair_36 : decode cX6_pair 36 = .ok (.aload_n 0, 1) := by decide +kernel
theorem dX6_pair_37 : decode cX6_pair 37 = .ok (.iload_n 1, 1) := by decide +kernel
theorem dX6_pair_38 : decode cX6_pair 38 = .ok (.iconst 1, 1) := by decide +kernel
theorem dX6_pair_39 : decode cX6_pair 39 = .ok (.iadd, 1) := by decide +kernel
theorem dX6_pair_40 : decode cX6_pair 40 = .ok (.invokevirtual 28, 3) := by decide +kernel
theorem dX6_pair_43 : decode cX6_pair 43 = .ok (.ifCond .eq 49, 3) := by decide +kernel
theorem dX6_pair_46 : decode cX6_pair 46 = .ok (.aload_n 0, 1) := by decide +kernel
theorem dX6_pair_47 : decode cX6_pair 47 = .ok (.getfield 19, 3) := by decide +kernel
theorem dX6_pair_50 : decode cX6_pair 50 = .ok (.bipush 44, 2) := by decide +kernel
theorem dX6_pair_52 : decode cX6_pair 52 = .ok (.invokevirtual 102, 3) := by decide +kernel
theorem dX6_pair_55 : decode cX6_pair 55 = .ok (.ifCond .eq 37, 3) := by decide +kernel
theorem dX6_pair_58 : decode cX6_pair 58 = .ok (.aload_n 0, 1) := by decide +kernel
theorem dX6_pair_59 : decode cX6_pair 59 = .ok (.iload_n 1, 1) := by decide +kernel
theorem dX6_pair_60 : decode cX6_pair 60 = .ok (.iconst 1, 1) := by decide +kernel
theorem dX6_pair_61 : decode cX6_pair 61 = .ok (.iadd, 1) := by decide +kernel
theorem dX6_pair_62 : decode cX6_pair 62 = .ok (.invokevirtual 28, 3) := by decide +kernel
theorem dX6_pair_65 : decode cX6_pair 65 = .ok (.ifCond .eq 27, 3) := by decide +kernel
theorem dX6_pair_68 : decode cX6_pair 68 = .ok (.aload_n 0, 1) := by decide +kernel
theorem dX6_pair_69 : decode cX6_pair 69 = .ok (.getfield 19, 3) := by decide +kernel
theorem dX6_pair_72 : decode cX6_pair 72 = .ok (.bipush 41, 2) := by decide +kernel
theorem dX6_pair_74 : decode cX6_pair 74 = .ok (.invokevirtual 102, 3) := by decide +kernel
theorem dX6_pair_77 : decode cX6_pair 77 = .ok (.ifCond .eq 15, 3) := by decide +kernel
theorem dX6_pair_80 : decode cX6_pair 80 = .ok (.aload_n 0, 1) := by decide +kernel
theorem dX6_pair_81 : decode cX6_pair 81 = .ok (.iload_n 2, 1) := by decide +kernel
theorem dX6_pair_82 : decode cX6_pair 82 = .ok (.invokevirtual 85, 3) := by decide +kernel
theorem dX6_pair_85 : decode cX6_pair 85 = .ok (.ifCond .eq 7, 3) := by decide +kernel
theorem dX6_pair_88 : decode cX6_pair 88 = .ok (.iconst 1, 1) := by decide +kernel
theorem dX6_pair_89 : decode cX6_pair 89 = .ok (.goto 4, 3) := by decide +kernel
theorem dX6_pair_92 : decode cX6_pair 92 = .ok (.iconst 0, 1) := by decide +kernel
theorem dX6_pair_93 : decode cX6_pair 93 = .ok (.ireturn, 1) := by decide +kernel
theorem dX6_readSum_0 : decode cX6_readSum 0 = .ok (.aload_n 0, 1) := by decide +kernel
theorem dX6_readSum_1 : decode cX6_readSum 1 = .ok (.aload_n 1, 1) := by decide +kernel
theorem dX6_readSum_2 : decode cX6_readSum 2 = .ok (.putfield 9, 3) := by decide +kernel
theorem dX6_readSum_5 : decode cX6_readSum 5 = .ok (.aload_n 0, 1) := by decide +kernel
theorem dX6_readSum_6 : decode cX6_readSum 6 = .ok (.iload_n 2, 1) := by decide +kernel
theorem dX6_readSum_7 : decode cX6_readSum 7 = .ok (.putfield 15, 3) := by decide +kernel
theorem dX6_readSum_10 : decode cX6_readSum 10 = .ok (.aload_n 1, 1) := by decide +kernel
theorem dX6_readSum_11 : decode cX6_readSum 11 = .ok (.invokevirtual 23, 3) := by decide +kernel
theorem dX6_readSum_14 : decode cX6_readSum 14 = .ok (.aload_n 0, 1) := by decide +kernel
theorem dX6_readSum_15 : decode cX6_readSum 15 = .ok (.iconst 0, 1) := by decide +kernel
theorem dX6_readSum_16 : decode cX6_readSum 16 = .ok (.invokevirtual 28, 3) := by decide +kernel
theorem dX6_readSum_19 : decode cX6_readSum 19 = .ok (.ireturn, 1) := by decide +kernel
theorem dX6_readTest_0 : decode cX6_readTest 0 = .ok (.aload_n 0, 1) := by decide +kernel
theorem dX6_readTest_1 : decode cX6_readTest 1 = .ok (.aload_n 1, 1) := by decide +kernel
theorem dX6_readTest_2 : decode cX6_readTest 2 = .ok (.putfield 9, 3) := by decide +kernel
theorem dX6_readTest_5 : decode cX6_readTest 5 = .ok (.aload_n 0, 1) := by decide +kernel
theorem dX6_readTest_6 : decode cX6_readTest 6 = .ok (.iload_n 2, 1) := by decide +kernel
theorem dX6_readTest_7 : decode cX6_readTest 7 = .ok (.putfield 15, 3) := by decide +kernel
theorem dX6_readTest_10 : decode cX6_readTest 10 = .ok (.aload_n 1, 1) := by decide +kernel
theorem dX6_readTest_11 : decode cX6_readTest 11 = .ok (.invokevirtual 23, 3) := by decide +kernel
theorem dX6_readTest_14 : decode cX6_readTest 14 = .ok (.aload_n 0, 1) := by decide +kernel
theorem dX6_readTest_15 : decode cX6_readTest 15 = .ok (.iconst 0, 1) := by decide +kernel
theorem dX6_readTest_16 : decode cX6_readTest 16 = .ok (.invokevirtual 32, 3) := by decide +kernel
theorem dX6_readTest_19 : decode cX6_readTest 19 = .ok (.ireturn, 1) := by decide +kernel
theorem dX4_statement_0 : decode cX4_statement 0 = .ok (.iload_n 1, 1) := by decide +kernel
theorem dX4_statement_1 : decode cX4_statement 1 = .ok (.ifCond .eq 53, 3) := by decide +kernel
theorem dX4_statement_4 : decode cX4_statement 4 = .ok (.aload_n 0, 1) := by decide +kernel
theorem dX4_statement_5 : decode cX4_statement 5 = .ok (.getfield 12, 3) := by decide +kernel
theorem dX4_statement_8 : decode cX4_statement 8 = .ok (.aload_n 0, 1) := by decide +kernel
theorem dX4_statement_9 : decode cX4_statement 9 = .ok (.getfield 18, 3) := by decide +kernel
theorem dX4_statement_12 : decode cX4_statement 12 = .ok (.ldc 50, 2) := by decide +kernel
theorem dX4_statement_14 : decode cX4_statement 14 = .ok (.invokevirtual 52, 3) := by decide +kernel
theorem dX4_statement_17 : decode cX4_statement 17 = .ok (.ifCond .eq 13, 3) := by decide +kernel
theorem dX4_statement_20 : decode cX4_statement 20 = .ok (.aload_n 0, 1) := by decide +kernel
theorem dX4_statement_21 : decode cX4_statement 21 = .ok (.iconst 2, 1) := by decide +kernel
theorem dX4_statement_22 : decode cX4_statement 22 = .ok (.bipush 24, 2) := by decide +kernel
theorem dX4_statement_24 : decode cX4_statement 24 = .ok (.invokevirtual 56, 3) := by decide +kernel
theorem dX4_statement_27 : decode cX4_statement 27 = .ok (.goto 7, 3) := by decide +kernel
theorem dX4_statement_30 : decode cX4_statement 30 = .ok (.aload_n 0, 1) := by decide +kernel
theorem dX4_statement_31 : decode cX4_statement 31 = .ok (.invokevirtual 60, 3) := by decide +kernel
theorem dX4_statement_34 : decode cX4_statement 34 = .ok (.putfield 64, 3) := by decide +kernel
theorem dX4_statement_37 : decode cX4_statement 37 = .ok (.aload_n 0, 1) := by decide +kernel
theorem dX4_statement_38 : decode cX4_statement 38 = .ok (.getfield 12, 3) := by decide +kernel
theorem dX4_statement_41 : decode cX4_statement 41 = .ok (.getfield 64, 3) := by decide +kernel
theorem dX4_statement_44 : decode cX4_statement 44 = .ok (.iconst (-1), 1) := by decide +kernel
theorem dX4_statement_45 : decode cX4_statement 45 = .ok (.if_icmp .eq 7, 3) := by decide +kernel
theorem dX4_statement_48 : decode cX4_statement 48 = .ok (.iconst 1, 1) := by decide +kernel
theorem dX4_statement_49 : decode cX4_statement 49 = .ok (.goto 4, 3) := by decide +kernel
theorem dX4_statement_52 : decode cX4_statement 52 = .ok (.iconst 0, 1) := by decide +kernel
theorem dX4_statement_53 : decode cX4_statement 53 = .ok (.ireturn, 1) := by decide +kernel
theorem dX4_statement_54 : decode cX4_statement 54 = .ok (.aload_n 0, 1) := by decide +kernel
theorem dX4_statement_55 : decode cX4_statement 55 = .ok (.getfield 18, 3) := by decide +kernel
theorem dX4_statement_58 : decode cX4_statement 58 = .ok (.ldc 66, 2) := by decide +kernel
theorem dX4_statement_60 : decode cX4_statement 60 = .ok (.invokevirtual 52, 3) := by decide +kernel
theorem dX4_statement_63 : decode cX4_statement 63 = .ok (.ifCond .eq 34, 3) := by decide +kernel
theorem dX4_statement_66 : decode cX4_statement 66 = .ok (.aload_n 0, 1) := by decide +kernel
theorem dX4_statement_67 : decode cX4_statement 67 = .ok (.getfield 12, 3) := by decide +kernel
theorem dX4_statement_70 : decode cX4_statement 70 = .ok (.aload_n 0, 1) := by decide +kernel
theorem dX4_statement_71 : decode cX4_statement 71 = .ok (.iconst 1, 1) := by decide +kernel
theorem dX4_statement_72 : decode cX4_statement 72 = .ok (.bipush 6, 2) := by decide +kernel
theorem dX4_statement_74 : decode cX4_statement 74 = .ok (.invokevirtual 56, 3) := by decide +kernel
theorem dX4_statement_77 : decode cX4_statement 77 = .ok (.putfield 68, 3) := by decide +kernel
theorem dX4_statement_80 : decode cX4_statement 80 = .ok (.aload_n 0, 1) := by decide +kernel
theorem dX4_statement_81 : decode cX4_statement 81 = .ok (.getfield 12, 3) := by decide +kernel
theorem dX4_statement_84 : decode cX4_statement 84 = .ok (.getfield 68, 3) := by decide +kernel
theorem dX4_statement_87 : decode cX4_statement 87 = .ok (.iconst (-1), 1) := by decide +kernel
theorem dX4_statement_88 : decode cX4_statement 88 = .ok (.if_icmp .eq 7, 3) := by decide +kernel
theorem dX4_statement_91 : decode cX4_statement 91 = .ok (.iconst 1, 1) := by decide +kernel
theorem dX4_statement_92 : decode cX4_statement 92 = .ok (.goto 4, 3) := by decide +kernel
theorem dX4_statement_95 : decode cX4_statement 95 = .ok (.iconst 0, 1) := by decide +kernel
theorem dX4_statement_96 : decode cX4_statement 96 = .ok (.ireturn, 1) := by decide +kernel
theorem dX4_statement_97 : decode cX4_statement 97 = .ok (.aload_n 0, 1) := by decide +kernel
theorem dX4_statement_98 : decode cX4_statement 98 = .ok (.getfield 18, 3) := by decide +kernel
theorem dX4_statement_101 : decode cX4_statement 101 = .ok (.ldc 70, 2) := by decide +kernel
theorem dX4_statement_103 : decode cX4_statement 103 = .ok (.invokevirtual 52, 3) := by decide +kernel
theorem dX4_statement_106 : decode cX4_statement 106 = .ok (.ifCond .eq 34, 3) := by decide +kernel
theorem dX4_statement_109 : decode cX4_statement 109 = .ok (.aload_n 0, 1) := by decide +kernel
theorem dX4_statement_110 : decode cX4_statement 110 = .ok (.getfield 12, 3) := by decide +kernel
theorem dX4_statement_113 : decode cX4_statement 113 = .ok (.aload_n 0, 1) := by decide +kernel
theorem dX4_statement_114 : decode cX4_statement 114 = .ok (.iconst 0, 1) := by decide +kernel
theorem dX4_statement_115 : decode cX4_statement 115 = .ok (.bipush 9, 2) := by decide +kernel
theorem dX4_statement_117 : decode cX4_statement 117 = .ok (.invokevirtual 56, 3) := by decide +kernel
theorem dX4_statement_120 : decode cX4_statement 120 = .ok (.putfield 72, 3) := by decide +kernel
theorem dX4_statement_123 : decode cX4_statement 123 = .ok (.aload_n 0, 1) := by decide +kernel
theorem dX4_statement_124 : decode cX4_statement 124 = .ok (.getfield 12, 3) := by decide +kernel
theorem dX4_statement_127 : decode cX4_statement 127 = .ok (.getfield 72, 3) := by decide +kernel
theorem dX4_statement_130 : decode cX4_statement 130 = .ok (.iconst (-1), 1) := by decide +kernel
theorem dX4_statement_131 : decode cX4_statement 131 = .ok (.if_icmp .eq 7, 3) := by decide +kernel
theorem dX4_statement_134 : decode cX4_statement 134 = .ok (.iconst 1, 1) := by decide +kernel
theorem dX4_statement_135 : decode cX4_statement 135 = .ok (.goto 4, 3) := by decide +kernel
theorem dX4_statement_138 : decode cX4_statement 138 = .ok (.iconst 0, 1) := by decide +kernel
theorem dX4_statement_139 : decode cX4_statement 139 = .ok (.ireturn, 1) := by decide +kernel
theorem dX4_statement_140 : decode cX4_statement 140 = .ok (.aload_n 0, 1) := by decide +kernel
theorem dX4_statement_141 : decode cX4_statement 141 = .ok (.getfield 18, 3) := by decide +kernel
theorem dX4_statement_144 : decode cX4_statement 144 = .ok (.ldc 74, 2) := by decide +kernel
theorem dX4_statement_146 : decode cX4_statement 146 = .ok (.invokevirtual 52, 3) := by decide +kernel
theorem dX4_statement_149 : decode cX4_statement 149 = .ok (.ifCond .eq 34, 3) := by decide +kernel
theorem dX4_statement_152 : decode cX4_statement 152 = .ok (.aload_n 0, 1) := by decide +kernel
theorem dX4_statement_153 : decode cX4_statement 153 = .ok (.getfield 12, 3) := by decide +kernel
theorem dX4_statement_156 : decode cX4_statement 156 = .ok (.aload_n 0, 1) := by decide +kernel
theorem dX4_statement_157 : decode cX4_statement 157 = .ok (.iconst 0, 1) := by decide +kernel
theorem dX4_statement_158 : decode cX4_statement 158 = .ok (.bipush 100, 2) := by decide +kernel
theorem dX4_statement_160 : decode cX4_statement 160 = .ok (.invokevirtual 56, 3) := by decide +kernel
theorem dX4_statement_163 : decode cX4_statement 163 = .ok (.putfield 76, 3) := by decide +kernel
theorem dX4_statement_166 : decode cX4_statement 166 = .ok (.aload_n 0, 1) := by decide +kernel
theorem dX4_statement_167 : decode cX4_statement 167 = .ok (.getfield 12, 3) := by decide +kernel
theorem dX4_statement_170 : decode cX4_statement 170 = .ok (.getfield 76, 3) := by decide +kernel
theorem dX4_statement_173 : decode cX4_statement 173 = .ok (.iconst (-1), 1) := by decide +kernel
theorem dX4_statement_174 : decode cX4_statement 174 = .ok (.if_icmp .eq 7, 3) := by decide +kernel
theorem dX4_statement_177 : decode cX4_statement 177 = .ok (.iconst 1, 1) := by decide +kernel
theorem dX4_statement_178 : decode cX4_statement 178 = .ok (.goto 4, 3) := by decide +kernel
theorem dX4_statement_181 : decode cX4_statement 181 = .ok (.iconst 0, 1) := by decide +kernel
theorem dX4_statement_182 : decode cX4_statement 182 = .ok (.ireturn, 1) := by decide +kernel
theorem dX4_statement_183 : decode cX4_statement 183 = .ok (.aload_n 0, 1) := by decide +kernel
theorem dX4_statement_184 : decode cX4_statement 184 = .ok (.getfield 18, 3) := by decide +kernel
theorem dX4_statement_187 : decode cX4_statement 187 = .ok (.ldc 78, 2) := by decide +kernel
theorem dX4_statement_189 : decode cX4_statement 189 = .ok (.invokevirtual 52, 3) := by decide +kernel
theorem dX4_statement_192 : decode cX4_statement 192 = .ok (.ifCond .eq 8, 3) := by decide +kernel
theorem dX4_statement_195 : decode cX4_statement 195 = .ok (.aload_n 0, 1) := by decide +kernel
theorem dX4_statement_196 : decode cX4_statement 196 = .ok (.invokevirtual 80, 3) := by decide +kernel
theorem dX4_statement_199 : decode cX4_statement 199 = .ok (.ireturn, 1) := by decide +kernel
theorem dX4_statement_200 : decode cX4_statement 200 = .ok (.aload_n 0, 1) := by decide +kernel
theorem dX4_statement_201 : decode cX4_statement 201 = .ok (.getfield 18, 3) := by decide +kernel
theorem dX4_statement_204 : decode cX4_statement 204 = .ok (.ldc 84, 2) := by decide +kernel
theorem dX4_statement_206 : decode cX4_statement 206 = .ok (.invokevirtual 52, 3) := by decide +kernel
theorem dX4_statement_209 : decode cX4_statement 209 = .ok (.ifCond .eq 8, 3) := by decide +kernel
theorem dX4_statement_212 : decode cX4_statement 212 = .ok (.aload_n 0, 1) := by decide +kernel
theorem dX4_statement_213 : decode cX4_statement 213 = .ok (.invokevirtual 86, 3) := by decide +kernel
theorem dX4_statement_216 : decode cX4_statement 216 = .ok (.ireturn, 1) := by decide +kernel
theorem dX4_statement_217 : decode cX4_statement 217 = .ok (.aload_n 0, 1) := by decide +kernel
theorem dX4_statement_218 : decode cX4_statement 218 = .ok (.getfield 18, 3) := by decide +kernel
theorem dX4_statement_221 : decode cX4_statement 221 = .ok (.ldc 89, 2) := by decide +kernel
theorem dX4_statement_223 : decode cX4_statement 223 = .ok (.invokevirtual 52, 3) := by decide +kernel
theorem dX4_statement_226 : decode cX4_statement 226 = .ok (.ifCond .eq 51, 3) := by decide +kernel
theorem dX4_statement_229 : decode cX4_statement 229 = .ok (.aload_n 0, 1) := by decide +kernel
theorem dX4_statement_230 : decode cX4_statement 230 = .ok (.getfield 12, 3) := by decide +kernel
theorem dX4_statement_233 : decode cX4_statement 233 = .ok (.getfield 91, 3) := by decide +kernel
theorem dX4_statement_236 : decode cX4_statement 236 = .ok (.istore_n 2, 1) := by decide +kernel
theorem dX4_statement_237 : decode cX4_statement 237 = .ok (.aload_n 0, 1) := by decide +kernel
theorem dX4_statement_238 : decode cX4_statement 238 = .ok (.getfield 12, 3) := by decide +kernel
theorem dX4_statement_241 : decode cX4_statement 241 = .ok (.iconst 1, 1) := by decide +kernel
theorem dX4_statement_242 : decode cX4_statement 242 = .ok (.putfield 91, 3) := by decide +kernel
theorem dX4_statement_245 : decode cX4_statement 245 = .ok (.aload_n 0, 1) := by decide +kernel
theorem dX4_statement_246 : decode cX4_statement 246 = .ok (.iload_n 2, 1) := by decide +kernel
theorem dX4_statement_247 : decode cX4_statement 247 = .ok (.invokevirtual 95, 3) := by decide +kernel
theorem dX4_statement_250 : decode cX4_statement 250 = .ok (.ifCond .eq 25, 3) := by decide +kernel
theorem dX4_statement_253 : decode cX4_statement 253 = .ok (.aload_n 0, 1) := by decide +kernel
theorem dX4_statement_254 : decode cX4_statement 254 = .ok (.getfield 22, 3) := by decide +kernel
theorem dX4_statement_257 : decode cX4_statement 257 = .ok (.aload_n 0, 1) := by decide +kernel
theorem dX4_statement_258 : decode cX4_statement 258 = .ok (.getfield 12, 3) := by decide +kernel
theorem dX4_statement_261 : decode cX4_statement 261 = .ok (.getfield 98, 3) := by decide +kernel
theorem dX4_statement_264 : decode cX4_statement 264 = .ok (.iconst 0, 1) := by decide +kernel
theorem dX4_statement_265 : decode cX4_statement 265 = .ok (.invokevirtual 103, 3) := by decide +kernel
theorem dX4_statement_268 : decode cX4_statement 268 = .ok (.ifCond .eq 7, 3) := by decide +kernel
theorem dX4_statement_271 : decode cX4_statement 271 = .ok (.iconst 1, 1) := by decide +kernel
theorem dX4_statement_272 : decode cX4_statement 272 = .ok (.goto 4, 3) := by decide +kernel
theorem dX4_statement_275 : decode cX4_statement 275 = .ok (.iconst 0, 1) := by decide +kernel
theorem dX4_statement_276 : decode cX4_statement 276 = .ok (.ireturn, 1) := by decide +kernel
theorem dX4_statement_277 : decode cX4_statement 277 = .ok (.aload_n 0, 1) := by decide +kernel
theorem dX4_statement_278 : decode cX4_statement 278 = .ok (.getfield 18, 3) := by decide +kernel
theorem dX4_statement_281 : decode cX4_statement 281 = .ok (.ldc 107, 2) := by decide +kernel
theorem dX4_statement_283 : decode cX4_statement 283 = .ok (.invokevirtual 52, 3) := by decide +kernel
theorem dX4_statement_286 : decode cX4_statement 286 = .ok (.ifCond .eq 51, 3) := by decide +kernel
theorem dX4_statement_289 : decode cX4_statement 289 = .ok (.aload_n 0, 1) := by decide +kernel
theorem dX4_statement_290 : decode cX4_statement 290 = .ok (.getfield 12, 3) := by decide +kernel
theorem dX4_statement_293 : decode cX4_statement 293 = .ok (.getfield 109, 3) := by decide +kernel
theorem dX4_statement_296 : decode cX4_statement 296 = .ok (.istore_n 2, 1) := by decide +kernel
theorem dX4_statement_297 : decode cX4_statement 297 = .ok (.aload_n 0, 1) := by decide +kernel
theorem dX4_statement_298 : decode cX4_statement 298 = .ok (.getfield 12, 3) := by decide +kernel
theorem dX4_statement_301 : decode cX4_statement 301 = .ok (.iconst 1, 1) := by decide +kernel
theorem dX4_statement_302 : decode cX4_statement 302 = .ok (.putfield 109, 3) := by decide +kernel
theorem dX4_statement_305 : decode cX4_statement 305 = .ok (.aload_n 0, 1) := by decide +kernel
theorem dX4_statement_306 : decode cX4_statement 306 = .ok (.iload_n 2, 1) := by decide +kernel
theorem dX4_statement_307 : decode cX4_statement 307 = .ok (.invokevirtual 95, 3) := by decide +kernel
theorem dX4_statement_310 : decode cX4_statement 310 = .ok (.ifCond .eq 25, 3) := by decide +kernel
theorem dX4_statement_313 : decode cX4_statement 313 = .ok (.aload_n 0, 1) := by decide +kernel
theorem dX4_statement_314 : decode cX4_statement 314 = .ok (.getfield 22, 3) := by decide +kernel
theorem dX4_statement_317 : decode cX4_statement 317 = .ok (.aload_n 0, 1) := by decide +kernel
theorem dX4_statement_318 : decode cX4_statement 318 = .ok (.getfield 12, 3) := by decide +kernel
theorem dX4_statement_321 : decode cX4_statement 321 = .ok (.getfield 112, 3) := by decide +kernel
theorem dX4_statement_324 : decode cX4_statement 324 = .ok (.iconst 1, 1) := by decide +kernel
theorem dX4_statement_325 : decode cX4_statement 325 = .ok (.invokevirtual 114, 3) := by decide +kernel
theorem dX4_statement_328 : decode cX4_statement 328 = .ok (.ifCond .eq 7, 3) := by decide +kernel
theorem dX4_statement_331 : decode cX4_statement 331 = .ok (.iconst 1, 1) := by decide +kernel
theorem dX4_statement_332 : decode cX4_statement 332 = .ok (.goto 4, 3) := by decide +kernel
theorem dX4_statement_335 : decode cX4_statement 335 = .ok (.iconst 0, 1) := by decide +kernel
theorem dX4_statement_336 : decode cX4_statement 336 = .ok (.ireturn, 1) := by decide +kernel
theorem dX4_statement_337 : decode cX4_statement 337 = .ok (.aload_n 0, 1) := by decide +kernel
theorem dX4_statement_338 : decode cX4_statement 338 = .ok (.getfield 18, 3) := by decide +kernel
theorem dX4_statement_341 : decode cX4_statement 341 = .ok (.iconst 1, 1) := by decide +kernel
theorem dX4_statement_342 : decode cX4_statement 342 = .ok (.invokevirtual 38, 3) := by decide +kernel
theorem dX4_statement_345 : decode cX4_statement 345 = .ok (.ireturn, 1) := by decide +kernel
theorem dX4_read_0 : decode cX4_read 0 = .ok (.aload_n 0, 1) := by decide +kernel
theorem dX4_read_1 : decode cX4_read 1 = .ok (.getfield 12, 3) := by decide +kernel
theorem dX4_read_4 : decode cX4_read 4 = .ok (.invokevirtual 26, 3) := by decide +kernel
theorem dX4_read_7 : decode cX4_read 7 = .ok (.aload_n 0, 1) := by decide +kernel
theorem dX4_read_8 : decode cX4_read 8 = .ok (.getfield 18, 3) := by decide +kernel
theorem dX4_read_11 : decode cX4_read 11 = .ok (.invokevirtual 29, 3) := by decide +kernel
theorem dX4_read_14 : decode cX4_read 14 = .ok (.iconst 0, 1) := by decide +kernel
theorem dX4_read_15 : decode cX4_read 15 = .ok (.istore_n 1, 1) := by decide +kernel
theorem dX4_read_16 : decode cX4_read 16 = .ok (.iconst 0, 1) := by decide +kernel
theorem dX4_read_17 : decode cX4_read 17 = .ok (.istore_n 2, 1) := by decide +kernel
theorem dX4_read_18 : decode cX4_read 18 = .ok (.iload_n 2, 1) := by decide +kernel
theorem dX4_read_19 : decode cX4_read 19 = .ok (.bipush 60, 2) := by decide +kernel
theorem dX4_read_21 : decode cX4_read 21 = .ok (.if_icmp .gt 69, 3) := by decide +kernel
theorem dX4_read_24 : decode cX4_read 24 = .ok (.aload_n 0, 1) := by decide +kernel
theorem dX4_read_25 : decode cX4_read 25 = .ok (.getfield 18, 3) := by decide +kernel
theorem dX4_read_28 : decode cX4_read 28 = .ok (.getfield 34, 3) := by decide +kernel
theorem dX4_read_31 : decode cX4_read 31 = .ok (.ifCond .eq 59, 3) := by decide +kernel
theorem dX4_read_34 : decode cX4_read 34 = .ok (.iload_n 2, 1) := by decide +kernel
theorem dX4_read_35 : decode cX4_read 35 = .ok (.bipush 60, 2) := by decide +kernel
theorem dX4_read_37 : decode cX4_read 37 = .ok (.if_icmp .ne 14, 3) := by decide +kernel
theorem dX4_read_40 : decode cX4_read 40 = .ok (.aload_n 0, 1) := by decide +kernel
theorem dX4_read_41 : decode cX4_read 41 = .ok (.getfield 18, 3) := by decide +kernel
theorem dX4_read_44 : decode cX4_read 44 = .ok (.iconst 5, 1) := by decide +kernel
theorem dX4_read_45 : decode cX4_read 45 = .ok (.invokevirtual 38, 3) := by decide +kernel
theorem dX4_read_48 : decode cX4_read 48 = .ok (.pop, 1) := by decide +kernel
theorem dX4_read_49 : decode cX4_read 49 = .ok (.iconst (-1), 1) := by decide +kernel
theorem dX4_read_50 : decode cX4_read 50 = .ok (.ireturn, 1) := by decide +kernel
theorem dX4_read_51 : decode cX4_read 51 = .ok (.aload_n 0, 1) := by decide +kernel
theorem dX4_read_52 : decode cX4_read 52 = .ok (.iload_n 2, 1) := by decide +kernel
theorem dX4_read_53 : decode cX4_read 53 = .ok (.ifCond .ne 7, 3) := by decide +kernel
theorem dX4_read_56 : decode cX4_read 56 = .ok (.iconst 1, 1) := by decide +kernel
theorem dX4_read_57 : decode cX4_read 57 = .ok (.goto 4, 3) := by decide +kernel
theorem dX4_read_60 : decode cX4_read 60 = .ok (.iconst 0, 1) := by decide +kernel
theorem dX4_read_61 : decode cX4_read 61 = .ok (.invokevirtual 42, 3) := by decide +kernel
theorem dX4_read_64 : decode cX4_read 64 = .ok (.ifCond .eq 15, 3) := by decide +kernel
theorem dX4_read_67 : decode cX4_read 67 = .ok (.aload_n 0, 1) := by decide +kernel
theorem dX4_read_68 : decode cX4_read 68 = .ok (.getfield 18, 3) := by decide +kernel
theorem dX4_read_71 : decode cX4_read 71 = .ok (.bipush 59, 2) := by decide +kernel
theorem dX4_read_73 : decode cX4_read 73 = .ok (.invokevirtual 46, 3) := by decide +kernel
theorem dX4_read_76 : decode cX4_read 76 = .ok (.ifCond .ne 5, 3) := by decide +kernel
theorem dX4_read_79 : decode cX4_read 79 = .ok (.iconst (-1), 1) := by decide +kernel
theorem dX4_read_80 : decode cX4_read 80 = .ok (.ireturn, 1) := by decide +kernel
theorem dX4_read_81 : decode cX4_read 81 = .ok (.iinc 1 1, 3) := by decide +kernel
theorem dX4_read_84 : decode cX4_read 84 = .ok (.iinc 2 1, 3) := by decide +kernel
theorem dX4_read_87 : decode cX4_read 87 = .ok (.goto (-69), 3) := by decide +kernel
theorem dX4_read_90 : decode cX4_read 90 = .ok (.iload_n 1, 1) := by decide +kernel
theorem dX4_read_91 : decode cX4_read 91 = .ok (.ifCond .ne 14, 3) := by decide +kernel
theorem dX4_read_94 : decode cX4_read 94 = .ok (.aload_n 0, 1) := by decide +kernel
theorem dX4_read_95 : decode cX4_read 95 = .ok (.getfield 18, 3) := by decide +kernel
theorem dX4_read_98 : decode cX4_read 98 = .ok (.iconst 1, 1) := by decide +kernel
theorem dX4_read_99 : decode cX4_read 99 = .ok (.invokevirtual 38, 3) := by decide +kernel
theorem dX4_read_102 : decode cX4_read 102 = .ok (.pop, 1) := by decide +kernel
theorem dX4_read_103 : decode cX4_read 103 = .ok (.iconst (-1), 1) := by decide +kernel
theorem dX4_read_104 : decode cX4_read 104 = .ok (.ireturn, 1) := by decide +kernel
theorem dX4_read_105 : decode cX4_read 105 = .ok (.iload_n 1, 1) := by decide +kernel
theorem dX4_read_106 : decode cX4_read 106 = .ok (.ireturn, 1) := by decide +kernel
theorem dX5_comingDays_0 : decode cX5_comingDays 0 = .ok (.bipush 31, 2) := by decide +kernel
theorem dX5_comingDays_2 : decode cX5_comingDays 2 = .ok (.sipush 999, 3) := by decide +kernel
theorem dX5_comingDays_5 : decode cX5_comingDays 5 = .ok (.aload_n 0, 1) := by decide +kernel
theorem dX5_comingDays_6 : decode cX5_comingDays 6 = .ok (.getfield 52, 3) := by decide +kernel
theorem dX5_comingDays_9 : decode cX5_comingDays 9 = .ok (.getfield 55, 3) := by decide +kernel
theorem dX5_comingDays_12 : decode cX5_comingDays 12 = .ok (.isub, 1) := by decide +kernel
theorem dX5_comingDays_13 : decode cX5_comingDays 13 = .ok (.invokestatic 71, 3) := by decide +kernel
theorem dX5_comingDays_16 : decode cX5_comingDays 16 = .ok (.ireturn, 1) := by decide +kernel
theorem dX5_cutsServe_0 : decode cX5_cutsServe 0 = .ok (.aload_n 0, 1) := by decide +kernel
theorem dX5_cutsServe_1 : decode cX5_cutsServe 1 = .ok (.getfield 12, 3) := by decide +kernel
theorem dX5_cutsServe_4 : decode cX5_cutsServe 4 = .ok (.aload_n 0, 1) := by decide +kernel
theorem dX5_cutsServe_5 : decode cX5_cutsServe 5 = .ok (.getfield 52, 3) := by decide +kernel
theorem dX5_cutsServe_8 : decode cX5_cutsServe 8 = .ok (.invokevirtual 58, 3) := by decide +kernel
theorem dX5_cutsServe_11 : decode cX5_cutsServe 11 = .ok (.aload_n 0, 1) := by decide +kernel
theorem dX5_cutsServe_12 : decode cX5_cutsServe 12 = .ok (.getfield 12, 3) := by decide +kernel
theorem dX5_cutsServe_15 : decode cX5_cutsServe 15 = .ok (.getfield 68, 3) := by decide +kernel
theorem dX5_cutsServe_18 : decode cX5_cutsServe 18 = .ok (.iconst 1, 1) := by decide +kernel
theorem dX5_cutsServe_19 : decode cX5_cutsServe 19 = .ok (.dup2, 1) := by decide +kernel
theorem dX5_cutsServe_20 : decode cX5_cutsServe 20 = .ok (.iaload, 1) := by decide +kernel
theorem dX5_cutsServe_21 : decode cX5_cutsServe 21 = .ok (.iload_n 1, 1) := by decide +kernel
theorem dX5_cutsServe_22 : decode cX5_cutsServe 22 = .ok (.isub, 1) := by decide +kernel
theorem dX5_cutsServe_23 : decode cX5_cutsServe 23 = .ok (.iastore, 1) := by decide +kernel
theorem dX5_cutsServe_24 : decode cX5_cutsServe 24 = .ok (.iconst 0, 1) := by decide +kernel
theorem dX5_cutsServe_25 : decode cX5_cutsServe 25 = .ok (.istore_n 2, 1) := by decide +kernel
theorem dX5_cutsServe_26 : decode cX5_cutsServe 26 = .ok (.iload_n 2, 1) := by decide +kernel
theorem dX5_cutsServe_27 : decode cX5_cutsServe 27 = .ok (.iload_n 1, 1) := by decide +kernel
theorem dX5_cutsServe_28 : decode cX5_cutsServe 28 = .ok (.if_icmp .ge 28, 3) := by decide +kernel
theorem dX5_cutsServe_31 : decode cX5_cutsServe 31 = .ok (.aload_n 0, 1) := by decide +kernel
theorem dX5_cutsServe_32 : decode cX5_cutsServe 32 = .ok (.getfield 12, 3) := by decide +kernel
theorem dX5_cutsServe_35 : decode cX5_cutsServe 35 = .ok (.aload_n 0, 1) := by decide +kernel
theorem dX5_cutsServe_36 : decode cX5_cutsServe 36 = .ok (.getfield 18, 3) := by decide +kernel
theorem dX5_cutsServe_39 : decode cX5_cutsServe 39 = .ok (.iload_n 2, 1) := by decide +kernel
theorem dX5_cutsServe_40 : decode cX5_cutsServe 40 = .ok (.iaload, 1) := by decide +kernel
theorem dX5_cutsServe_41 : decode cX5_cutsServe 41 = .ok (.aload_n 0, 1) := by decide +kernel
theorem dX5_cutsServe_42 : decode cX5_cutsServe 42 = .ok (.getfield 18, 3) := by decide +kernel
theorem dX5_cutsServe_45 : decode cX5_cutsServe 45 = .ok (.iload_n 2, 1) := by decide +kernel
theorem dX5_cutsServe_46 : decode cX5_cutsServe 46 = .ok (.iaload, 1) := by decide +kernel
theorem dX5_cutsServe_47 : decode cX5_cutsServe 47 = .ok (.invokevirtual 93, 3) := by decide +kernel
theorem dX5_cutsServe_50 : decode cX5_cutsServe 50 = .ok (.iinc 2 1, 3) := by decide +kernel
theorem dX5_cutsServe_53 : decode cX5_cutsServe 53 = .ok (.goto (-27), 3) := by decide +kernel
theorem dX5_cutsServe_56 : decode cX5_cutsServe 56 = .ok (.aload_n 0, 1) := by decide +kernel
theorem dX5_cutsServe_57 : decode cX5_cutsServe 57 = .ok (.getfield 48, 3) := by decide +kernel
theorem dX5_cutsServe_60 : decode cX5_cutsServe 60 = .ok (.aload_n 0, 1) := by decide +kernel
theorem dX5_cutsServe_61 : decode cX5_cutsServe 61 = .ok (.getfield 12, 3) := by decide +kernel
theorem dX5_cutsServe_64 : decode cX5_cutsServe 64 = .ok (.invokevirtual 96, 3) := by decide +kernel
theorem dX5_cutsServe_67 : decode cX5_cutsServe 67 = .ok (.ireturn, 1) := by decide +kernel
theorem dX5_fillCutRow_0 : decode cX5_fillCutRow 0 = .ok (.iload_n 1, 1) := by decide +kernel
theorem dX5_fillCutRow_1 : decode cX5_fillCutRow 1 = .ok (.istore_n 3, 1) := by decide +kernel
theorem dX5_fillCutRow_2 : decode cX5_fillCutRow 2 = .ok (.iload_n 3, 1) := by decide +kernel
theorem dX5_fillCutRow_3 : decode cX5_fillCutRow 3 = .ok (.iconst 3, 1) := by decide +kernel
theorem dX5_fillCutRow_4 : decode cX5_fillCutRow 4 = .ok (.if_icmp .ge 16, 3) := by decide +kernel
theorem dX5_fillCutRow_7 : decode cX5_fillCutRow 7 = .ok (.aload_n 0, 1) := by decide +kernel
theorem dX5_fillCutRow_8 : decode cX5_fillCutRow 8 = .ok (.getfield 18, 3) := by decide +kernel
theorem dX5_fillCutRow_11 : decode cX5_fillCutRow 11 = .ok (.iload_n 3, 1) := by decide +kernel
theorem dX5_fillCutRow_12 : decode cX5_fillCutRow 12 = .ok (.iload_n 2, 1) := by decide +kernel
theorem dX5_fillCutRow_13 : decode cX5_fillCutRow 13 = .ok (.iastore, 1) := by decide +kernel
theorem dX5_fillCutRow_14 : decode cX5_fillCutRow 14 = .ok (.iinc 3 1, 3) := by decide +kernel
theorem dX5_fillCutRow_17 : decode cX5_fillCutRow 17 = .ok (.goto (-15), 3) := by decide +kernel
theorem dX5_fillCutRow_20 : decode cX5_fillCutRow 20 = .ok (.return_, 1) := by decide +kernel
theorem dX5_nextCutRow_0 : decode cX5_nextCutRow 0 = .ok (.iload_n 1, 1) := by decide +kernel
theorem dX5_nextCutRow_1 : decode cX5_nextCutRow 1 = .ok (.iconst 1, 1) := by decide +kernel
theorem dX5_nextCutRow_2 : decode cX5_nextCutRow 2 = .ok (.isub, 1) := by decide +kernel
theorem dX5_nextCutRow_3 : decode cX5_nextCutRow 3 = .ok (.istore_n 2, 1) := by decide +kernel
theorem dX5_nextCutRow_4 : decode cX5_nextCutRow 4 = .ok (.iload_n 2, 1) := by decide +kernel
theorem dX5_nextCutRow_5 : decode cX5_nextCutRow 5 = .ok (.ifCond .lt 40, 3) := by decide +kernel
theorem dX5_nextCutRow_8 : decode cX5_nextCutRow 8 = .ok (.aload_n 0, 1) := by decide +kernel
theorem dX5_nextCutRow_9 : decode cX5_nextCutRow 9 = .ok (.getfield 18, 3) := by decide +kernel
theorem dX5_nextCutRow_12 : decode cX5_nextCutRow 12 = .ok (.iload_n 2, 1) := by decide +kernel
theorem dX5_nextCutRow_13 : decode cX5_nextCutRow 13 = .ok (.iaload, 1) := by decide +kernel
theorem dX5_nextCutRow_14 : decode cX5_nextCutRow 14 = .ok (.aload_n 0, 1) := by decide +kernel
theorem dX5_nextCutRow_15 : decode cX5_nextCutRow 15 = .ok (.getfield 44, 3) := by decide +kernel
theorem dX5_nextCutRow_18 : decode cX5_nextCutRow 18 = .ok (.getfield 88, 3) := by decide +kernel
theorem dX5_nextCutRow_21 : decode cX5_nextCutRow 21 = .ok (.if_icmp .ge 18, 3) := by decide +kernel
theorem dX5_nextCutRow_24 : decode cX5_nextCutRow 24 = .ok (.aload_n 0, 1) := by decide +kernel
theorem dX5_nextCutRow_25 : decode cX5_nextCutRow 25 = .ok (.iload_n 2, 1) := by decide +kernel
theorem dX5_nextCutRow_26 : decode cX5_nextCutRow 26 = .ok (.aload_n 0, 1) := by decide +kernel
theorem dX5_nextCutRow_27 : decode cX5_nextCutRow 27 = .ok (.getfield 18, 3) := by decide +kernel
theorem dX5_nextCutRow_30 : decode cX5_nextCutRow 30 = .ok (.iload_n 2, 1) := by decide +kernel
theorem dX5_nextCutRow_31 : decode cX5_nextCutRow 31 = .ok (.iaload, 1) := by decide +kernel
theorem dX5_nextCutRow_32 : decode cX5_nextCutRow 32 = .ok (.iconst 1, 1) := by decide +kernel
theorem dX5_nextCutRow_33 : decode cX5_nextCutRow 33 = .ok (.iadd, 1) := by decide +kernel
theorem dX5_nextCutRow_34 : decode cX5_nextCutRow 34 = .ok (.invokevirtual 77, 3) := by decide +kernel
theorem dX5_nextCutRow_37 : decode cX5_nextCutRow 37 = .ok (.iconst 1, 1) := by decide +kernel
theorem dX5_nextCutRow_38 : decode cX5_nextCutRow 38 = .ok (.ireturn, 1) := by decide +kernel
theorem dX5_nextCutRow_39 : decode cX5_nextCutRow 39 = .ok (.iinc 2 (-1), 3) := by decide +kernel
theorem dX5_nextCutRow_42 : decode cX5_nextCutRow 42 = .ok (.goto (-38), 3) := by decide +kernel
theorem dX5_nextCutRow_45 : decode cX5_nextCutRow 45 = .ok (.iconst 0, 1) := by decide +kernel
theorem dX5_nextCutRow_46 : decode cX5_nextCutRow 46 = .ok (.ireturn, 1) := by decide +kernel
theorem dX5_fewestCuts_0 : decode cX5_fewestCuts 0 = .ok (.iconst 3, 1) := by decide +kernel
theorem dX5_fewestCuts_1 : decode cX5_fewestCuts 1 = .ok (.aload_n 0, 1) := by decide +kernel
theorem dX5_fewestCuts_2 : decode cX5_fewestCuts 2 = .ok (.getfield 52, 3) := by decide +kernel
theorem dX5_fewestCuts_5 : decode cX5_fewestCuts 5 = .ok (.getfield 68, 3) := by decide +kernel
theorem dX5_fewestCuts_8 : decode cX5_fewestCuts 8 = .ok (.iconst 1, 1) := by decide +kernel
theorem dX5_fewestCuts_9 : decode cX5_fewestCuts 9 = .ok (.iaload, 1) := by decide +kernel
theorem dX5_fewestCuts_10 : decode cX5_fewestCuts 10 = .ok (.invokestatic 71, 3) := by decide +kernel
theorem dX5_fewestCuts_13 : decode cX5_fewestCuts 13 = .ok (.istore_n 1, 1) := by decide +kernel
theorem dX5_fewestCuts_14 : decode cX5_fewestCuts 14 = .ok (.iconst 0, 1) := by decide +kernel
theorem dX5_fewestCuts_15 : decode cX5_fewestCuts 15 = .ok (.istore_n 2, 1) := by decide +kernel
theorem dX5_fewestCuts_16 : decode cX5_fewestCuts 16 = .ok (.iload_n 2, 1) := by decide +kernel
theorem dX5_fewestCuts_17 : decode cX5_fewestCuts 17 = .ok (.iload_n 1, 1) := by decide +kernel
theorem dX5_fewestCuts_18 : decode cX5_fewestCuts 18 = .ok (.if_icmp .gt 54, 3) := by decide +kernel
theorem dX5_fewestCuts_21 : decode cX5_fewestCuts 21 = .ok (.aload_n 0, 1) := by decide +kernel
theorem dX5_fewestCuts_22 : decode cX5_fewestCuts 22 = .ok (.iconst 0, 1) := by decide +kernel
theorem dX5_fewestCuts_23 : decode cX5_fewestCuts 23 = .ok (.iconst 2, 1) := by decide +kernel
theorem dX5_fewestCuts_24 : decode cX5_fewestCuts 24 = .ok (.invokevirtual 77, 3) := by decide +kernel
theorem dX5_fewestCuts_27 : decode cX5_fewestCuts 27 = .ok (.iconst 1, 1) := by decide +kernel
theorem dX5_fewestCuts_28 : decode cX5_fewestCuts 28 = .ok (.istore_n 3, 1) := by decide +kernel
theorem dX5_fewestCuts_29 : decode cX5_fewestCuts 29 = .ok (.iconst 0, 1) := by decide +kernel
theorem dX5_fewestCuts_30 : decode cX5_fewestCuts 30 = .ok (.istore 4, 2) := by decide +kernel
theorem dX5_fewestCuts_32 : decode cX5_fewestCuts 32 = .ok (.iload 4, 2) := by decide +kernel
theorem dX5_fewestCuts_34 : decode cX5_fewestCuts 34 = .ok (.sipush 10000, 3) := by decide +kernel
theorem dX5_fewestCuts_37 : decode cX5_fewestCuts 37 = .ok (.if_icmp .ge 29, 3) := by decide +kernel
theorem dX5_fewestCuts_40 : decode cX5_fewestCuts 40 = .ok (.iload_n 3, 1) := by decide +kernel
theorem dX5_fewestCuts_41 : decode cX5_fewestCuts 41 = .ok (.ifCond .eq 25, 3) := by decide +kernel
theorem dX5_fewestCuts_44 : decode cX5_fewestCuts 44 = .ok (.aload_n 0, 1) := by decide +kernel
theorem dX5_fewestCuts_45 : decode cX5_fewestCuts 45 = .ok (.iload_n 2, 1) := by decide +kernel
theorem dX5_fewestCuts_46 : decode cX5_fewestCuts 46 = .ok (.invokevirtual 81, 3) := by decide +kernel
theorem dX5_fewestCuts_49 : decode cX5_fewestCuts 49 = .ok (.ifCond .eq 5, 3) := by decide +kernel
theorem dX5_fewestCuts_52 : decode cX5_fewestCuts 52 = .ok (.iload_n 2, 1) := by decide +kernel
theorem dX5_fewestCuts_53 : decode cX5_fewestCuts 53 = .ok (.ireturn, 1) := by decide +kernel
theorem dX5_fewestCuts_54 : decode cX5_fewestCuts 54 = .ok (.aload_n 0, 1) := by decide +kernel
theorem dX5_fewestCuts_55 : decode cX5_fewestCuts 55 = .ok (.iload_n 2, 1) := by decide +kernel
theorem dX5_fewestCuts_56 : decode cX5_fewestCuts 56 = .ok (.invokevirtual 85, 3) := by decide +kernel
theorem dX5_fewestCuts_59 : decode cX5_fewestCuts 59 = .ok (.istore_n 3, 1) := by decide +kernel
theorem dX5_fewestCuts_60 : decode cX5_fewestCuts 60 = .ok (.iinc 4 1, 3) := by decide +kernel
theorem dX5_fewestCuts_63 : decode cX5_fewestCuts 63 = .ok (.goto (-31), 3) := by decide +kernel
theorem dX5_fewestCuts_66 : decode cX5_fewestCuts 66 = .ok (.iinc 2 1, 3) := by decide +kernel
theorem dX5_fewestCuts_69 : decode cX5_fewestCuts 69 = .ok (.goto (-53), 3) := by decide +kernel
theorem dX5_fewestCuts_72 : decode cX5_fewestCuts 72 = .ok (.iconst (-1), 1) := by decide +kernel
theorem dX5_fewestCuts_73 : decode cX5_fewestCuts 73 = .ok (.ireturn, 1) := by decide +kernel
theorem dX5_lastSeenDay_0 : decode cX5_lastSeenDay 0 = .ok (.iconst (-1), 1) := by decide +kernel
theorem dX5_lastSeenDay_1 : decode cX5_lastSeenDay 1 = .ok (.istore_n 1, 1) := by decide +kernel
theorem dX5_lastSeenDay_2 : decode cX5_lastSeenDay 2 = .ok (.iconst 0, 1) := by decide +kernel
theorem dX5_lastSeenDay_3 : decode cX5_lastSeenDay 3 = .ok (.istore_n 2, 1) := by decide +kernel
theorem dX5_lastSeenDay_4 : decode cX5_lastSeenDay 4 = .ok (.iload_n 2, 1) := by decide +kernel
theorem dX5_lastSeenDay_5 : decode cX5_lastSeenDay 5 = .ok (.aload_n 0, 1) := by decide +kernel
theorem dX5_lastSeenDay_6 : decode cX5_lastSeenDay 6 = .ok (.getfield 28, 3) := by decide +kernel
theorem dX5_lastSeenDay_9 : decode cX5_lastSeenDay 9 = .ok (.if_icmp .ge 22, 3) := by decide +kernel
theorem dX5_lastSeenDay_12 : decode cX5_lastSeenDay 12 = .ok (.iload_n 1, 1) := by decide +kernel
theorem dX5_lastSeenDay_13 : decode cX5_lastSeenDay 13 = .ok (.aload_n 0, 1) := by decide +kernel
theorem dX5_lastSeenDay_14 : decode cX5_lastSeenDay 14 = .ok (.getfield 25, 3) := by decide +kernel
theorem dX5_lastSeenDay_17 : decode cX5_lastSeenDay 17 = .ok (.iload_n 2, 1) := by decide +kernel
theorem dX5_lastSeenDay_18 : decode cX5_lastSeenDay 18 = .ok (.iconst 3, 1) := by decide +kernel
theorem dX5_lastSeenDay_19 : decode cX5_lastSeenDay 19 = .ok (.imul, 1) := by decide +kernel
theorem dX5_lastSeenDay_20 : decode cX5_lastSeenDay 20 = .ok (.iaload, 1) := by decide +kernel
theorem dX5_lastSeenDay_21 : decode cX5_lastSeenDay 21 = .ok (.invokestatic 143, 3) := by decide +kernel
theorem dX5_lastSeenDay_24 : decode cX5_lastSeenDay 24 = .ok (.istore_n 1, 1) := by decide +kernel
theorem dX5_lastSeenDay_25 : decode cX5_lastSeenDay 25 = .ok (.iinc 2 1, 3) := by decide +kernel
theorem dX5_lastSeenDay_28 : decode cX5_lastSeenDay 28 = .ok (.goto (-24), 3) := by decide +kernel
theorem dX5_lastSeenDay_31 : decode cX5_lastSeenDay 31 = .ok (.iload_n 1, 1) := by decide +kernel
theorem dX5_lastSeenDay_32 : decode cX5_lastSeenDay 32 = .ok (.ireturn, 1) := by decide +kernel
theorem dX5_watch_0 : decode cX5_watch 0 = .ok (.iconst 0, 1) := by decide +kernel
theorem dX5_watch_1 : decode cX5_watch 1 = .ok (.istore_n 3, 1) := by decide +kernel
theorem dX5_watch_2 : decode cX5_watch 2 = .ok (.iload_n 3, 1) := by decide +kernel
theorem dX5_watch_3 : decode cX5_watch 3 = .ok (.bipush 31, 2) := by decide +kernel
theorem dX5_watch_5 : decode cX5_watch 5 = .ok (.if_icmp .ge 75, 3) := by decide +kernel
theorem dX5_watch_8 : decode cX5_watch 8 = .ok (.aload_n 0, 1) := by decide +kernel
theorem dX5_watch_9 : decode cX5_watch 9 = .ok (.getfield 12, 3) := by decide +kernel
theorem dX5_watch_12 : decode cX5_watch 12 = .ok (.aload_n 0, 1) := by decide +kernel
theorem dX5_watch_13 : decode cX5_watch 13 = .ok (.getfield 52, 3) := by decide +kernel
theorem dX5_watch_16 : decode cX5_watch 16 = .ok (.invokevirtual 58, 3) := by decide +kernel
theorem dX5_watch_19 : decode cX5_watch 19 = .ok (.aload_n 0, 1) := by decide +kernel
theorem dX5_watch_20 : decode cX5_watch 20 = .ok (.getfield 12, 3) := by decide +kernel
theorem dX5_watch_23 : decode cX5_watch 23 = .ok (.getfield 68, 3) := by decide +kernel
theorem dX5_watch_26 : decode cX5_watch 26 = .ok (.iload_n 1, 1) := by decide +kernel
theorem dX5_watch_27 : decode cX5_watch 27 = .ok (.iload_n 3, 1) := by decide +kernel
theorem dX5_watch_28 : decode cX5_watch 28 = .ok (.iastore, 1) := by decide +kernel
theorem dX5_watch_29 : decode cX5_watch 29 = .ok (.iconst 0, 1) := by decide +kernel
theorem dX5_watch_30 : decode cX5_watch 30 = .ok (.istore 4, 2) := by decide +kernel
theorem dX5_watch_32 : decode cX5_watch 32 = .ok (.iload 4, 2) := by decide +kernel
theorem dX5_watch_34 : decode cX5_watch 34 = .ok (.iload_n 2, 1) := by decide +kernel
theorem dX5_watch_35 : decode cX5_watch 35 = .ok (.if_icmp .ge 39, 3) := by decide +kernel
theorem dX5_watch_38 : decode cX5_watch 38 = .ok (.iload 4, 2) := by decide +kernel
theorem dX5_watch_40 : decode cX5_watch 40 = .ok (.bipush 31, 2) := by decide +kernel
theorem dX5_watch_42 : decode cX5_watch 42 = .ok (.if_icmp .ge 32, 3) := by decide +kernel
theorem dX5_watch_45 : decode cX5_watch 45 = .ok (.aload_n 0, 1) := by decide +kernel
theorem dX5_watch_46 : decode cX5_watch 46 = .ok (.getfield 32, 3) := by decide +kernel
theorem dX5_watch_49 : decode cX5_watch 49 = .ok (.iload_n 3, 1) := by decide +kernel
theorem dX5_watch_50 : decode cX5_watch 50 = .ok (.bipush 31, 2) := by decide +kernel
theorem dX5_watch_52 : decode cX5_watch 52 = .ok (.imul, 1) := by decide +kernel
theorem dX5_watch_53 : decode cX5_watch 53 = .ok (.iload 4, 2) := by decide +kernel
theorem dX5_watch_55 : decode cX5_watch 55 = .ok (.iadd, 1) := by decide +kernel
theorem dX5_watch_56 : decode cX5_watch 56 = .ok (.aload_n 0, 1) := by decide +kernel
theorem dX5_watch_57 : decode cX5_watch 57 = .ok (.getfield 48, 3) := by decide +kernel
theorem dX5_watch_60 : decode cX5_watch 60 = .ok (.aload_n 0, 1) := by decide +kernel
theorem dX5_watch_61 : decode cX5_watch 61 = .ok (.getfield 12, 3) := by decide +kernel
theorem dX5_watch_64 : decode cX5_watch 64 = .ok (.invokevirtual 62, 3) := by decide +kernel
theorem dX5_watch_67 : decode cX5_watch 67 = .ok (.iastore, 1) := by decide +kernel
theorem dX5_watch_68 : decode cX5_watch 68 = .ok (.iinc 4 1, 3) := by decide +kernel
theorem dX5_watch_71 : decode cX5_watch 71 = .ok (.goto (-39), 3) := by decide +kernel
theorem dX5_watch_74 : decode cX5_watch 74 = .ok (.iinc 3 1, 3) := by decide +kernel
theorem dX5_watch_77 : decode cX5_watch 77 = .ok (.goto (-75), 3) := by decide +kernel
theorem dX5_watch_80 : decode cX5_watch 80 = .ok (.return_, 1) := by decide +kernel
theorem dX5_isAsSeen_0 : decode cX5_isAsSeen 0 = .ok (.iconst 0, 1) := by decide +kernel
theorem dX5_isAsSeen_1 : decode cX5_isAsSeen 1 = .ok (.istore_n 2, 1) := by decide +kernel
theorem dX5_isAsSeen_2 : decode cX5_isAsSeen 2 = .ok (.iload_n 2, 1) := by decide +kernel
theorem dX5_isAsSeen_3 : decode cX5_isAsSeen 3 = .ok (.aload_n 0, 1) := by decide +kernel
theorem dX5_isAsSeen_4 : decode cX5_isAsSeen 4 = .ok (.getfield 28, 3) := by decide +kernel
theorem dX5_isAsSeen_7 : decode cX5_isAsSeen 7 = .ok (.if_icmp .ge 57, 3) := by decide +kernel
theorem dX5_isAsSeen_10 : decode cX5_isAsSeen 10 = .ok (.aload_n 0, 1) := by decide +kernel
theorem dX5_isAsSeen_11 : decode cX5_isAsSeen 11 = .ok (.getfield 32, 3) := by decide +kernel
theorem dX5_isAsSeen_14 : decode cX5_isAsSeen 14 = .ok (.iload_n 1, 1) := by decide +kernel
theorem dX5_isAsSeen_15 : decode cX5_isAsSeen 15 = .ok (.bipush 31, 2) := by decide +kernel
theorem dX5_isAsSeen_17 : decode cX5_isAsSeen 17 = .ok (.imul, 1) := by decide +kernel
theorem dX5_isAsSeen_18 : decode cX5_isAsSeen 18 = .ok (.aload_n 0, 1) := by decide +kernel
theorem dX5_isAsSeen_19 : decode cX5_isAsSeen 19 = .ok (.getfield 25, 3) := by decide +kernel
theorem dX5_isAsSeen_22 : decode cX5_isAsSeen 22 = .ok (.iload_n 2, 1) := by decide +kernel
theorem dX5_isAsSeen_23 : decode cX5_isAsSeen 23 = .ok (.iconst 3, 1) := by decide +kernel
theorem dX5_isAsSeen_24 : decode cX5_isAsSeen 24 = .ok (.imul, 1) := by decide +kernel
theorem dX5_isAsSeen_25 : decode cX5_isAsSeen 25 = .ok (.iaload, 1) := by decide +kernel
theorem dX5_isAsSeen_26 : decode cX5_isAsSeen 26 = .ok (.iadd, 1) := by decide +kernel
theorem dX5_isAsSeen_27 : decode cX5_isAsSeen 27 = .ok (.iaload, 1) := by decide +kernel
theorem dX5_isAsSeen_28 : decode cX5_isAsSeen 28 = .ok (.istore_n 3, 1) := by decide +kernel
theorem dX5_isAsSeen_29 : decode cX5_isAsSeen 29 = .ok (.iload_n 3, 1) := by decide +kernel
theorem dX5_isAsSeen_30 : decode cX5_isAsSeen 30 = .ok (.aload_n 0, 1) := by decide +kernel
theorem dX5_isAsSeen_31 : decode cX5_isAsSeen 31 = .ok (.getfield 25, 3) := by decide +kernel
theorem dX5_isAsSeen_34 : decode cX5_isAsSeen 34 = .ok (.iload_n 2, 1) := by decide +kernel
theorem dX5_isAsSeen_35 : decode cX5_isAsSeen 35 = .ok (.iconst 3, 1) := by decide +kernel
theorem dX5_isAsSeen_36 : decode cX5_isAsSeen 36 = .ok (.imul, 1) := by decide +kernel
theorem dX5_isAsSeen_37 : decode cX5_isAsSeen 37 = .ok (.iconst 1, 1) := by decide +kernel
theorem dX5_isAsSeen_38 : decode cX5_isAsSeen 38 = .ok (.iadd, 1) := by decide +kernel
theorem dX5_isAsSeen_39 : decode cX5_isAsSeen 39 = .ok (.iaload, 1) := by decide +kernel
theorem dX5_isAsSeen_40 : decode cX5_isAsSeen 40 = .ok (.ishr, 1) := by decide +kernel
theorem dX5_isAsSeen_41 : decode cX5_isAsSeen 41 = .ok (.iconst 1, 1) := by decide +kernel
theorem dX5_isAsSeen_42 : decode cX5_isAsSeen 42 = .ok (.iand, 1) := by decide +kernel
theorem dX5_isAsSeen_43 : decode cX5_isAsSeen 43 = .ok (.aload_n 0, 1) := by decide +kernel
theorem dX5_isAsSeen_44 : decode cX5_isAsSeen 44 = .ok (.getfield 25, 3) := by decide +kernel
theorem dX5_isAsSeen_47 : decode cX5_isAsSeen 47 = .ok (.iload_n 2, 1) := by decide +kernel
theorem dX5_isAsSeen_48 : decode cX5_isAsSeen 48 = .ok (.iconst 3, 1) := by decide +kernel
theorem dX5_isAsSeen_49 : decode cX5_isAsSeen 49 = .ok (.imul, 1) := by decide +kernel
theorem dX5_isAsSeen_50 : decode cX5_isAsSeen 50 = .ok (.iconst 2, 1) := by decide +kernel
theorem dX5_isAsSeen_51 : decode cX5_isAsSeen 51 = .ok (.iadd, 1) := by decide +kernel
theorem dX5_isAsSeen_52 : decode cX5_isAsSeen 52 = .ok (.iaload, 1) := by decide +kernel
theorem dX5_isAsSeen_53 : decode cX5_isAsSeen 53 = .ok (.if_icmp .eq 5, 3) := by decide +kernel
theorem dX5_isAsSeen_56 : decode cX5_isAsSeen 56 = .ok (.iconst 0, 1) := by decide +kernel
theorem dX5_isAsSeen_57 : decode cX5_isAsSeen 57 = .ok (.ireturn, 1) := by decide +kernel
theorem dX5_isAsSeen_58 : decode cX5_isAsSeen 58 = .ok (.iinc 2 1, 3) := by decide +kernel
theorem dX5_isAsSeen_61 : decode cX5_isAsSeen 61 = .ok (.goto (-59), 3) := by decide +kernel
theorem dX5_isAsSeen_64 : decode cX5_isAsSeen 64 = .ok (.iconst 1, 1) := by decide +kernel
theorem dX5_isAsSeen_65 : decode cX5_isAsSeen 65 = .ok (.ireturn, 1) := by decide +kernel
theorem dX5_stocksAsSeen_0 : decode cX5_stocksAsSeen 0 = .ok (.iconst 0, 1) := by decide +kernel
theorem dX5_stocksAsSeen_1 : decode cX5_stocksAsSeen 1 = .ok (.istore_n 1, 1) := by decide +kernel
theorem dX5_stocksAsSeen_2 : decode cX5_stocksAsSeen 2 = .ok (.iconst 0, 1) := by decide +kernel
theorem dX5_stocksAsSeen_3 : decode cX5_stocksAsSeen 3 = .ok (.istore_n 2, 1) := by decide +kernel
theorem dX5_stocksAsSeen_4 : decode cX5_stocksAsSeen 4 = .ok (.iload_n 2, 1) := by decide +kernel
theorem dX5_stocksAsSeen_5 : decode cX5_stocksAsSeen 5 = .ok (.bipush 31, 2) := by decide +kernel
theorem dX5_stocksAsSeen_7 : decode cX5_stocksAsSeen 7 = .ok (.if_icmp .ge 23, 3) := by decide +kernel
theorem dX5_stocksAsSeen_10 : decode cX5_stocksAsSeen 10 = .ok (.aload_n 0, 1) := by decide +kernel
theorem dX5_stocksAsSeen_11 : decode cX5_stocksAsSeen 11 = .ok (.iload_n 2, 1) := by decide +kernel
theorem dX5_stocksAsSeen_12 : decode cX5_stocksAsSeen 12 = .ok (.invokevirtual 158, 3) := by decide +kernel
theorem dX5_stocksAsSeen_15 : decode cX5_stocksAsSeen 15 = .ok (.ifCond .eq 9, 3) := by decide +kernel
theorem dX5_stocksAsSeen_18 : decode cX5_stocksAsSeen 18 = .ok (.iload_n 1, 1) := by decide +kernel
theorem dX5_stocksAsSeen_19 : decode cX5_stocksAsSeen 19 = .ok (.iconst 1, 1) := by decide +kernel
theorem dX5_stocksAsSeen_20 : decode cX5_stocksAsSeen 20 = .ok (.iload_n 2, 1) := by decide +kernel
theorem dX5_stocksAsSeen_21 : decode cX5_stocksAsSeen 21 = .ok (.ishl, 1) := by decide +kernel
theorem dX5_stocksAsSeen_22 : decode cX5_stocksAsSeen 22 = .ok (.ior, 1) := by decide +kernel
theorem dX5_stocksAsSeen_23 : decode cX5_stocksAsSeen 23 = .ok (.istore_n 1, 1) := by decide +kernel
theorem dX5_stocksAsSeen_24 : decode cX5_stocksAsSeen 24 = .ok (.iinc 2 1, 3) := by decide +kernel
theorem dX5_stocksAsSeen_27 : decode cX5_stocksAsSeen 27 = .ok (.goto (-23), 3) := by decide +kernel
theorem dX5_stocksAsSeen_30 : decode cX5_stocksAsSeen 30 = .ok (.iload_n 1, 1) := by decide +kernel
theorem dX5_stocksAsSeen_31 : decode cX5_stocksAsSeen 31 = .ok (.ireturn, 1) := by decide +kernel
theorem dX5_servedBy_0 : decode cX5_servedBy 0 = .ok (.iconst 0, 1) := by decide +kernel
theorem dX5_servedBy_1 : decode cX5_servedBy 1 = .ok (.istore 4, 2) := by decide +kernel
theorem dX5_servedBy_3 : decode cX5_servedBy 3 = .ok (.iconst 0, 1) := by decide +kernel
theorem dX5_servedBy_4 : decode cX5_servedBy 4 = .ok (.istore 5, 2) := by decide +kernel
theorem dX5_servedBy_6 : decode cX5_servedBy 6 = .ok (.iload 5, 2) := by decide +kernel
theorem dX5_servedBy_8 : decode cX5_servedBy 8 = .ok (.bipush 31, 2) := by decide +kernel
theorem dX5_servedBy_10 : decode cX5_servedBy 10 = .ok (.if_icmp .ge 35, 3) := by decide +kernel
theorem dX5_servedBy_13 : decode cX5_servedBy 13 = .ok (.iload 4, 2) := by decide +kernel
theorem dX5_servedBy_15 : decode cX5_servedBy 15 = .ok (.iload_n 1, 1) := by decide +kernel
theorem dX5_servedBy_16 : decode cX5_servedBy 16 = .ok (.iload 5, 2) := by decide +kernel
theorem dX5_servedBy_18 : decode cX5_servedBy 18 = .ok (.ishr, 1) := by decide +kernel
theorem dX5_servedBy_19 : decode cX5_servedBy 19 = .ok (.aload_n 0, 1) := by decide +kernel
theorem dX5_servedBy_20 : decode cX5_servedBy 20 = .ok (.getfield 32, 3) := by decide +kernel
theorem dX5_servedBy_23 : decode cX5_servedBy 23 = .ok (.iload 5, 2) := by decide +kernel
theorem dX5_servedBy_25 : decode cX5_servedBy 25 = .ok (.bipush 31, 2) := by decide +kernel
theorem dX5_servedBy_27 : decode cX5_servedBy 27 = .ok (.imul, 1) := by decide +kernel
theorem dX5_servedBy_28 : decode cX5_servedBy 28 = .ok (.iload_n 2, 1) := by decide +kernel
theorem dX5_servedBy_29 : decode cX5_servedBy 29 = .ok (.iadd, 1) := by decide +kernel
theorem dX5_servedBy_30 : decode cX5_servedBy 30 = .ok (.iaload, 1) := by decide +kernel
theorem dX5_servedBy_31 : decode cX5_servedBy 31 = .ok (.iload_n 3, 1) := by decide +kernel
theorem dX5_servedBy_32 : decode cX5_servedBy 32 = .ok (.ishr, 1) := by decide +kernel
theorem dX5_servedBy_33 : decode cX5_servedBy 33 = .ok (.iand, 1) := by decide +kernel
theorem dX5_servedBy_34 : decode cX5_servedBy 34 = .ok (.iconst 1, 1) := by decide +kernel
theorem dX5_servedBy_35 : decode cX5_servedBy 35 = .ok (.iand, 1) := by decide +kernel
theorem dX5_servedBy_36 : decode cX5_servedBy 36 = .ok (.iadd, 1) := by decide +kernel
theorem dX5_servedBy_37 : decode cX5_servedBy 37 = .ok (.istore 4, 2) := by decide +kernel
theorem dX5_servedBy_39 : decode cX5_servedBy 39 = .ok (.iinc 5 1, 3) := by decide +kernel
theorem dX5_servedBy_42 : decode cX5_servedBy 42 = .ok (.goto (-36), 3) := by decide +kernel
theorem dX5_servedBy_45 : decode cX5_servedBy 45 = .ok (.iload 4, 2) := by decide +kernel
theorem dX5_servedBy_47 : decode cX5_servedBy 47 = .ok (.ireturn, 1) := by decide +kernel
theorem dX5_findTelling_0 : decode cX5_findTelling 0 = .ok (.aload_n 0, 1) := by decide +kernel
theorem dX5_findTelling_1 : decode cX5_findTelling 1 = .ok (.invokevirtual 149, 3) := by decide +kernel
theorem dX5_findTelling_4 : decode cX5_findTelling 4 = .ok (.istore_n 2, 1) := by decide +kernel
theorem dX5_findTelling_5 : decode cX5_findTelling 5 = .ok (.iload_n 2, 1) := by decide +kernel
theorem dX5_findTelling_6 : decode cX5_findTelling 6 = .ok (.iconst 1, 1) := by decide +kernel
theorem dX5_findTelling_7 : decode cX5_findTelling 7 = .ok (.if_icmp .lt 22, 3) := by decide +kernel
theorem dX5_findTelling_10 : decode cX5_findTelling 10 = .ok (.iload_n 2, 1) := by decide +kernel
theorem dX5_findTelling_11 : decode cX5_findTelling 11 = .ok (.aload_n 0, 1) := by decide +kernel
theorem dX5_findTelling_12 : decode cX5_findTelling 12 = .ok (.invokevirtual 146, 3) := by decide +kernel
theorem dX5_findTelling_15 : decode cX5_findTelling 15 = .ok (.if_icmp .le 14, 3) := by decide +kernel
theorem dX5_findTelling_18 : decode cX5_findTelling 18 = .ok (.aload_n 0, 1) := by decide +kernel
theorem dX5_findTelling_19 : decode cX5_findTelling 19 = .ok (.getfield 44, 3) := by decide +kernel
theorem dX5_findTelling_22 : decode cX5_findTelling 22 = .ok (.getfield 100, 3) := by decide +kernel
theorem dX5_findTelling_25 : decode cX5_findTelling 25 = .ok (.iconst 1, 1) := by decide +kernel
theorem dX5_findTelling_26 : decode cX5_findTelling 26 = .ok (.if_icmp .ge 5, 3) := by decide +kernel
theorem dX5_findTelling_29 : decode cX5_findTelling 29 = .ok (.iconst 0, 1) := by decide +kernel
theorem dX5_findTelling_30 : decode cX5_findTelling 30 = .ok (.ireturn, 1) := by decide +kernel
theorem dX5_findTelling_31 : decode cX5_findTelling 31 = .ok (.aload_n 0, 1) := by decide +kernel
theorem dX5_findTelling_32 : decode cX5_findTelling 32 = .ok (.iload_n 1, 1) := by decide +kernel
theorem dX5_findTelling_33 : decode cX5_findTelling 33 = .ok (.iload_n 2, 1) := by decide +kernel
theorem dX5_findTelling_34 : decode cX5_findTelling 34 = .ok (.invokevirtual 152, 3) := by decide +kernel
theorem dX5_findTelling_37 : decode cX5_findTelling 37 = .ok (.aload_n 0, 1) := by decide +kernel
theorem dX5_findTelling_38 : decode cX5_findTelling 38 = .ok (.invokevirtual 155, 3) := by decide +kernel
theorem dX5_findTelling_41 : decode cX5_findTelling 41 = .ok (.istore_n 3, 1) := by decide +kernel
theorem dX5_findTelling_42 : decode cX5_findTelling 42 = .ok (.iload_n 3, 1) := by decide +kernel
theorem dX5_findTelling_43 : decode cX5_findTelling 43 = .ok (.ifCond .ne 5, 3) := by decide +kernel
theorem dX5_findTelling_46 : decode cX5_findTelling 46 = .ok (.iconst 0, 1) := by decide +kernel
theorem dX5_findTelling_47 : decode cX5_findTelling 47 = .ok (.ireturn, 1) := by decide +kernel
theorem dX5_findTelling_48 : decode cX5_findTelling 48 = .ok (.iload_n 3, 1) := by decide +kernel
theorem dX5_findTelling_49 : decode cX5_findTelling 49 = .ok (.invokestatic 161, 3) := by decide +kernel
theorem dX5_findTelling_52 : decode cX5_findTelling 52 = .ok (.istore 4, 2) := by decide +kernel
theorem dX5_findTelling_54 : decode cX5_findTelling 54 = .ok (.aload_n 0, 1) := by decide +kernel
theorem dX5_findTelling_55 : decode cX5_findTelling 55 = .ok (.iload 4, 2) := by decide +kernel
theorem dX5_findTelling_57 : decode cX5_findTelling 57 = .ok (.iconst 1, 1) := by decide +kernel
theorem dX5_findTelling_58 : decode cX5_findTelling 58 = .ok (.iadd, 1) := by decide +kernel
theorem dX5_findTelling_59 : decode cX5_findTelling 59 = .ok (.putfield 41, 3) := by decide +kernel
theorem dX5_findTelling_62 : decode cX5_findTelling 62 = .ok (.iconst 0, 1) := by decide +kernel
theorem dX5_findTelling_63 : decode cX5_findTelling 63 = .ok (.istore 5, 2) := by decide +kernel
theorem dX5_findTelling_65 : decode cX5_findTelling 65 = .ok (.iload 5, 2) := by decide +kernel
theorem dX5_findTelling_67 : decode cX5_findTelling 67 = .ok (.iload_n 2, 1) := by decide +kernel
theorem dX5_findTelling_68 : decode cX5_findTelling 68 = .ok (.if_icmp .ge 80, 3) := by decide +kernel
theorem dX5_findTelling_71 : decode cX5_findTelling 71 = .ok (.iconst 0, 1) := by decide +kernel
theorem dX5_findTelling_72 : decode cX5_findTelling 72 = .ok (.istore 6, 2) := by decide +kernel
theorem dX5_findTelling_74 : decode cX5_findTelling 74 = .ok (.iload 6, 2) := by decide +kernel
theorem dX5_findTelling_76 : decode cX5_findTelling 76 = .ok (.aload_n 0, 1) := by decide +kernel
theorem dX5_findTelling_77 : decode cX5_findTelling 77 = .ok (.getfield 44, 3) := by decide +kernel
theorem dX5_findTelling_80 : decode cX5_findTelling 80 = .ok (.getfield 100, 3) := by decide +kernel
theorem dX5_findTelling_83 : decode cX5_findTelling 83 = .ok (.if_icmp .ge 59, 3) := by decide +kernel
theorem dX5_findTelling_86 : decode cX5_findTelling 86 = .ok (.aload_n 0, 1) := by decide +kernel
theorem dX5_findTelling_87 : decode cX5_findTelling 87 = .ok (.iload_n 3, 1) := by decide +kernel
theorem dX5_findTelling_88 : decode cX5_findTelling 88 = .ok (.iload 5, 2) := by decide +kernel
theorem dX5_findTelling_90 : decode cX5_findTelling 90 = .ok (.iload 6, 2) := by decide +kernel
theorem dX5_findTelling_92 : decode cX5_findTelling 92 = .ok (.invokevirtual 167, 3) := by decide +kernel
theorem dX5_findTelling_95 : decode cX5_findTelling 95 = .ok (.istore 7, 2) := by decide +kernel
theorem dX5_findTelling_97 : decode cX5_findTelling 97 = .ok (.iload 7, 2) := by decide +kernel
theorem dX5_findTelling_99 : decode cX5_findTelling 99 = .ok (.iload 4, 2) := by decide +kernel
theorem dX5_findTelling_101 : decode cX5_findTelling 101 = .ok (.iload 7, 2) := by decide +kernel
theorem dX5_findTelling_103 : decode cX5_findTelling 103 = .ok (.isub, 1) := by decide +kernel
theorem dX5_findTelling_104 : decode cX5_findTelling 104 = .ok (.invokestatic 143, 3) := by decide +kernel
theorem dX5_findTelling_107 : decode cX5_findTelling 107 = .ok (.istore 8, 2) := by decide +kernel
theorem dX5_findTelling_109 : decode cX5_findTelling 109 = .ok (.iload 8, 2) := by decide +kernel
theorem dX5_findTelling_111 : decode cX5_findTelling 111 = .ok (.aload_n 0, 1) := by decide +kernel
theorem dX5_findTelling_112 : decode cX5_findTelling 112 = .ok (.getfield 41, 3) := by decide +kernel
theorem dX5_findTelling_115 : decode cX5_findTelling 115 = .ok (.if_icmp .ge 21, 3) := by decide +kernel
theorem dX5_findTelling_118 : decode cX5_findTelling 118 = .ok (.aload_n 0, 1) := by decide +kernel
theorem dX5_findTelling_119 : decode cX5_findTelling 119 = .ok (.iload 5, 2) := by decide +kernel
theorem dX5_findTelling_121 : decode cX5_findTelling 121 = .ok (.putfield 35, 3) := by decide +kernel
theorem dX5_findTelling_124 : decode cX5_findTelling 124 = .ok (.aload_n 0, 1) := by decide +kernel
theorem dX5_findTelling_125 : decode cX5_findTelling 125 = .ok (.iload 6, 2) := by decide +kernel
theorem dX5_findTelling_127 : decode cX5_findTelling 127 = .ok (.putfield 38, 3) := by decide +kernel
theorem dX5_findTelling_130 : decode cX5_findTelling 130 = .ok (.aload_n 0, 1) := by decide +kernel
theorem dX5_findTelling_131 : decode cX5_findTelling 131 = .ok (.iload 8, 2) := by decide +kernel
theorem dX5_findTelling_133 : decode cX5_findTelling 133 = .ok (.putfield 41, 3) := by decide +kernel
theorem dX5_findTelling_136 : decode cX5_findTelling 136 = .ok (.iinc 6 1, 3) := by decide +kernel
theorem dX5_findTelling_139 : decode cX5_findTelling 139 = .ok (.goto (-65), 3) := by decide +kernel
theorem dX5_findTelling_142 : decode cX5_findTelling 142 = .ok (.iinc 5 1, 3) := by decide +kernel
theorem dX5_findTelling_145 : decode cX5_findTelling 145 = .ok (.goto (-80), 3) := by decide +kernel
theorem dX5_findTelling_148 : decode cX5_findTelling 148 = .ok (.iconst 1, 1) := by decide +kernel
theorem dX5_findTelling_149 : decode cX5_findTelling 149 = .ok (.ireturn, 1) := by decide +kernel
theorem dX5_firstServed_0 : decode cX5_firstServed 0 = .ok (.aload_n 0, 1) := by decide +kernel
theorem dX5_firstServed_1 : decode cX5_firstServed 1 = .ok (.getfield 12, 3) := by decide +kernel
theorem dX5_firstServed_4 : decode cX5_firstServed 4 = .ok (.aload_n 0, 1) := by decide +kernel
theorem dX5_firstServed_5 : decode cX5_firstServed 5 = .ok (.getfield 52, 3) := by decide +kernel
theorem dX5_firstServed_8 : decode cX5_firstServed 8 = .ok (.invokevirtual 58, 3) := by decide +kernel
theorem dX5_firstServed_11 : decode cX5_firstServed 11 = .ok (.iconst 0, 1) := by decide +kernel
theorem dX5_firstServed_12 : decode cX5_firstServed 12 = .ok (.istore_n 2, 1) := by decide +kernel
theorem dX5_firstServed_13 : decode cX5_firstServed 13 = .ok (.iload_n 2, 1) := by decide +kernel
theorem dX5_firstServed_14 : decode cX5_firstServed 14 = .ok (.bipush 40, 2) := by decide +kernel
theorem dX5_firstServed_16 : decode cX5_firstServed 16 = .ok (.if_icmp .ge 45, 3) := by decide +kernel
theorem dX5_firstServed_19 : decode cX5_firstServed 19 = .ok (.aload_n 0, 1) := by decide +kernel
theorem dX5_firstServed_20 : decode cX5_firstServed 20 = .ok (.getfield 52, 3) := by decide +kernel
theorem dX5_firstServed_23 : decode cX5_firstServed 23 = .ok (.getfield 55, 3) := by decide +kernel
theorem dX5_firstServed_26 : decode cX5_firstServed 26 = .ok (.iload_n 2, 1) := by decide +kernel
theorem dX5_firstServed_27 : decode cX5_firstServed 27 = .ok (.iadd, 1) := by decide +kernel
theorem dX5_firstServed_28 : decode cX5_firstServed 28 = .ok (.sipush 999, 3) := by decide +kernel
theorem dX5_firstServed_31 : decode cX5_firstServed 31 = .ok (.if_icmp .ge 30, 3) := by decide +kernel
theorem dX5_firstServed_34 : decode cX5_firstServed 34 = .ok (.aload_n 0, 1) := by decide +kernel
theorem dX5_firstServed_35 : decode cX5_firstServed 35 = .ok (.getfield 48, 3) := by decide +kernel
theorem dX5_firstServed_38 : decode cX5_firstServed 38 = .ok (.aload_n 0, 1) := by decide +kernel
theorem dX5_firstServed_39 : decode cX5_firstServed 39 = .ok (.getfield 12, 3) := by decide +kernel
theorem dX5_firstServed_42 : decode cX5_firstServed 42 = .ok (.invokevirtual 62, 3) := by decide +kernel
theorem dX5_firstServed_45 : decode cX5_firstServed 45 = .ok (.iload_n 1, 1) := by decide +kernel
theorem dX5_firstServed_46 : decode cX5_firstServed 46 = .ok (.ishr, 1) := by decide +kernel
theorem dX5_firstServed_47 : decode cX5_firstServed 47 = .ok (.iconst 1, 1) := by decide +kernel
theorem dX5_firstServed_48 : decode cX5_firstServed 48 = .ok (.iand, 1) := by decide +kernel
theorem dX5_firstServed_49 : decode cX5_firstServed 49 = .ok (.iconst 1, 1) := by decide +kernel
theorem dX5_firstServed_50 : decode cX5_firstServed 50 = .ok (.if_icmp .ne 5, 3) := by decide +kernel
theorem dX5_firstServed_53 : decode cX5_firstServed 53 = .ok (.iload_n 2, 1) := by decide +kernel
theorem dX5_firstServed_54 : decode cX5_firstServed 54 = .ok (.ireturn, 1) := by decide +kernel
theorem dX5_firstServed_55 : decode cX5_firstServed 55 = .ok (.iinc 2 1, 3) := by decide +kernel
theorem dX5_firstServed_58 : decode cX5_firstServed 58 = .ok (.goto (-45), 3) := by decide +kernel
theorem dX5_firstServed_61 : decode cX5_firstServed 61 = .ok (.iconst (-1), 1) := by decide +kernel
theorem dX5_firstServed_62 : decode cX5_firstServed 62 = .ok (.ireturn, 1) := by decide +kernel
theorem dX5_goAhead_0 : decode cX5_goAhead 0 = .ok (.iload_n 1, 1) := by decide +kernel
theorem dX5_goAhead_1 : decode cX5_goAhead 1 = .ok (.ifCond .lt 24, 3) := by decide +kernel
theorem dX5_goAhead_4 : decode cX5_goAhead 4 = .ok (.iload_n 1, 1) := by decide +kernel
theorem dX5_goAhead_5 : decode cX5_goAhead 5 = .ok (.bipush 40, 2) := by decide +kernel
theorem dX5_goAhead_7 : decode cX5_goAhead 7 = .ok (.if_icmp .gt 18, 3) := by decide +kernel
theorem dX5_goAhead_10 : decode cX5_goAhead 10 = .ok (.aload_n 0, 1) := by decide +kernel
theorem dX5_goAhead_11 : decode cX5_goAhead 11 = .ok (.getfield 52, 3) := by decide +kernel
theorem dX5_goAhead_14 : decode cX5_goAhead 14 = .ok (.getfield 55, 3) := by decide +kernel
theorem dX5_goAhead_17 : decode cX5_goAhead 17 = .ok (.iload_n 1, 1) := by decide +kernel
theorem dX5_goAhead_18 : decode cX5_goAhead 18 = .ok (.iadd, 1) := by decide +kernel
theorem dX5_goAhead_19 : decode cX5_goAhead 19 = .ok (.sipush 999, 3) := by decide +kernel
theorem dX5_goAhead_22 : decode cX5_goAhead 22 = .ok (.if_icmp .le 5, 3) := by decide +kernel
theorem dX5_goAhead_25 : decode cX5_goAhead 25 = .ok (.iconst 0, 1) := by decide +kernel
theorem dX5_goAhead_26 : decode cX5_goAhead 26 = .ok (.ireturn, 1) := by decide +kernel
theorem dX5_goAhead_27 : decode cX5_goAhead 27 = .ok (.aload_n 0, 1) := by decide +kernel
theorem dX5_goAhead_28 : decode cX5_goAhead 28 = .ok (.getfield 12, 3) := by decide +kernel
theorem dX5_goAhead_31 : decode cX5_goAhead 31 = .ok (.aload_n 0, 1) := by decide +kernel
theorem dX5_goAhead_32 : decode cX5_goAhead 32 = .ok (.getfield 52, 3) := by decide +kernel
theorem dX5_goAhead_35 : decode cX5_goAhead 35 = .ok (.invokevirtual 58, 3) := by decide +kernel
theorem dX5_goAhead_38 : decode cX5_goAhead 38 = .ok (.iconst 0, 1) := by decide +kernel
theorem dX5_goAhead_39 : decode cX5_goAhead 39 = .ok (.istore_n 2, 1) := by decide +kernel
theorem dX5_goAhead_40 : decode cX5_goAhead 40 = .ok (.iload_n 2, 1) := by decide +kernel
theorem dX5_goAhead_41 : decode cX5_goAhead 41 = .ok (.iload_n 1, 1) := by decide +kernel
theorem dX5_goAhead_42 : decode cX5_goAhead 42 = .ok (.if_icmp .ge 21, 3) := by decide +kernel
theorem dX5_goAhead_45 : decode cX5_goAhead 45 = .ok (.aload_n 0, 1) := by decide +kernel
theorem dX5_goAhead_46 : decode cX5_goAhead 46 = .ok (.getfield 48, 3) := by decide +kernel
theorem dX5_goAhead_49 : decode cX5_goAhead 49 = .ok (.aload_n 0, 1) := by decide +kernel
theorem dX5_goAhead_50 : decode cX5_goAhead 50 = .ok (.getfield 12, 3) := by decide +kernel
theorem dX5_goAhead_53 : decode cX5_goAhead 53 = .ok (.invokevirtual 62, 3) := by decide +kernel
theorem dX5_goAhead_56 : decode cX5_goAhead 56 = .ok (.pop, 1) := by decide +kernel
theorem dX5_goAhead_57 : decode cX5_goAhead 57 = .ok (.iinc 2 1, 3) := by decide +kernel
theorem dX5_goAhead_60 : decode cX5_goAhead 60 = .ok (.goto (-20), 3) := by decide +kernel
theorem dX5_goAhead_63 : decode cX5_goAhead 63 = .ok (.iconst 1, 1) := by decide +kernel
theorem dX5_goAhead_64 : decode cX5_goAhead 64 = .ok (.ireturn, 1) := by decide +kernel
theorem dX5_seat_0 : decode cX5_seat 0 = .ok (.iload_n 1, 1) := by decide +kernel
theorem dX5_seat_1 : decode cX5_seat 1 = .ok (.aload_n 0, 1) := by decide +kernel
theorem dX5_seat_2 : decode cX5_seat 2 = .ok (.getfield 44, 3) := by decide +kernel
theorem dX5_seat_5 : decode cX5_seat 5 = .ok (.getfield 100, 3) := by decide +kernel
theorem dX5_seat_8 : decode cX5_seat 8 = .ok (.if_icmp .lt 5, 3) := by decide +kernel
theorem dX5_seat_11 : decode cX5_seat 11 = .ok (.iconst 1, 1) := by decide +kernel
theorem dX5_seat_12 : decode cX5_seat 12 = .ok (.ireturn, 1) := by decide +kernel
theorem dX5_seat_13 : decode cX5_seat 13 = .ok (.aload_n 0, 1) := by decide +kernel
theorem dX5_seat_14 : decode cX5_seat 14 = .ok (.getfield 22, 3) := by decide +kernel
theorem dX5_seat_17 : decode cX5_seat 17 = .ok (.iload_n 1, 1) := by decide +kernel
theorem dX5_seat_18 : decode cX5_seat 18 = .ok (.iconst (-1), 1) := by decide +kernel
theorem dX5_seat_19 : decode cX5_seat 19 = .ok (.iastore, 1) := by decide +kernel
theorem dX5_seat_20 : decode cX5_seat 20 = .ok (.iload_n 2, 1) := by decide +kernel
theorem dX5_seat_21 : decode cX5_seat 21 = .ok (.ifCond .le 18, 3) := by decide +kernel
theorem dX5_seat_24 : decode cX5_seat 24 = .ok (.aload_n 0, 1) := by decide +kernel
theorem dX5_seat_25 : decode cX5_seat 25 = .ok (.iload_n 1, 1) := by decide +kernel
theorem dX5_seat_26 : decode cX5_seat 26 = .ok (.iconst 1, 1) := by decide +kernel
theorem dX5_seat_27 : decode cX5_seat 27 = .ok (.iadd, 1) := by decide +kernel
theorem dX5_seat_28 : decode cX5_seat 28 = .ok (.iload_n 2, 1) := by decide +kernel
theorem dX5_seat_29 : decode cX5_seat 29 = .ok (.iconst 1, 1) := by decide +kernel
theorem dX5_seat_30 : decode cX5_seat 30 = .ok (.isub, 1) := by decide +kernel
theorem dX5_seat_31 : decode cX5_seat 31 = .ok (.invokevirtual 103, 3) := by decide +kernel
theorem dX5_seat_34 : decode cX5_seat 34 = .ok (.ifCond .eq 5, 3) := by decide +kernel
theorem dX5_seat_37 : decode cX5_seat 37 = .ok (.iconst 1, 1) := by decide +kernel
theorem dX5_seat_38 : decode cX5_seat 38 = .ok (.ireturn, 1) := by decide +kernel
theorem dX5_seat_39 : decode cX5_seat 39 = .ok (.aload_n 0, 1) := by decide +kernel
theorem dX5_seat_40 : decode cX5_seat 40 = .ok (.getfield 12, 3) := by decide +kernel
theorem dX5_seat_43 : decode cX5_seat 43 = .ok (.invokevirtual 107, 3) := by decide +kernel
theorem dX5_seat_46 : decode cX5_seat 46 = .ok (.istore_n 3, 1) := by decide +kernel
theorem dX5_seat_47 : decode cX5_seat 47 = .ok (.bipush 8, 2) := by decide +kernel
theorem dX5_seat_49 : decode cX5_seat 49 = .ok (.aload_n 0, 1) := by decide +kernel
theorem dX5_seat_50 : decode cX5_seat 50 = .ok (.getfield 44, 3) := by decide +kernel
theorem dX5_seat_53 : decode cX5_seat 53 = .ok (.getfield 111, 3) := by decide +kernel
theorem dX5_seat_56 : decode cX5_seat 56 = .ok (.iload_n 1, 1) := by decide +kernel
theorem dX5_seat_57 : decode cX5_seat 57 = .ok (.iaload, 1) := by decide +kernel
theorem dX5_seat_58 : decode cX5_seat 58 = .ok (.invokestatic 71, 3) := by decide +kernel
theorem dX5_seat_61 : decode cX5_seat 61 = .ok (.istore 4, 2) := by decide +kernel
theorem dX5_seat_63 : decode cX5_seat 63 = .ok (.iconst 0, 1) := by decide +kernel
theorem dX5_seat_64 : decode cX5_seat 64 = .ok (.istore 5, 2) := by decide +kernel
theorem dX5_seat_66 : decode cX5_seat 66 = .ok (.iload 5, 2) := by decide +kernel
theorem dX5_seat_68 : decode cX5_seat 68 = .ok (.iload 4, 2) := by decide +kernel
theorem dX5_seat_70 : decode cX5_seat 70 = .ok (.if_icmp .ge 71, 3) := by decide +kernel
theorem dX5_seat_73 : decode cX5_seat 73 = .ok (.aload_n 0, 1) := by decide +kernel
theorem dX5_seat_74 : decode cX5_seat 74 = .ok (.getfield 44, 3) := by decide +kernel
theorem dX5_seat_77 : decode cX5_seat 77 = .ok (.iload_n 1, 1) := by decide +kernel
theorem dX5_seat_78 : decode cX5_seat 78 = .ok (.iload 5, 2) := by decide +kernel
theorem dX5_seat_80 : decode cX5_seat 80 = .ok (.invokevirtual 114, 3) := by decide +kernel
theorem dX5_seat_83 : decode cX5_seat 83 = .ok (.istore 6, 2) := by decide +kernel
theorem dX5_seat_85 : decode cX5_seat 85 = .ok (.iload 6, 2) := by decide +kernel
theorem dX5_seat_87 : decode cX5_seat 87 = .ok (.iload_n 3, 1) := by decide +kernel
theorem dX5_seat_88 : decode cX5_seat 88 = .ok (.iconst (-1), 1) := by decide +kernel
theorem dX5_seat_89 : decode cX5_seat 89 = .ok (.ixor, 1) := by decide +kernel
theorem dX5_seat_90 : decode cX5_seat 90 = .ok (.iand, 1) := by decide +kernel
theorem dX5_seat_91 : decode cX5_seat 91 = .ok (.ifCond .ne 44, 3) := by decide +kernel
theorem dX5_seat_94 : decode cX5_seat 94 = .ok (.aload_n 0, 1) := by decide +kernel
theorem dX5_seat_95 : decode cX5_seat 95 = .ok (.getfield 12, 3) := by decide +kernel
theorem dX5_seat_98 : decode cX5_seat 98 = .ok (.iload 6, 2) := by decide +kernel
theorem dX5_seat_100 : decode cX5_seat 100 = .ok (.iconst (-1), 1) := by decide +kernel
theorem dX5_seat_101 : decode cX5_seat 101 = .ok (.invokevirtual 117, 3) := by decide +kernel
theorem dX5_seat_104 : decode cX5_seat 104 = .ok (.aload_n 0, 1) := by decide +kernel
theorem dX5_seat_105 : decode cX5_seat 105 = .ok (.getfield 22, 3) := by decide +kernel
theorem dX5_seat_108 : decode cX5_seat 108 = .ok (.iload_n 1, 1) := by decide +kernel
theorem dX5_seat_109 : decode cX5_seat 109 = .ok (.iload 5, 2) := by decide +kernel
theorem dX5_seat_111 : decode cX5_seat 111 = .ok (.iastore, 1) := by decide +kernel
theorem dX5_seat_112 : decode cX5_seat 112 = .ok (.aload_n 0, 1) := by decide +kernel
theorem dX5_seat_113 : decode cX5_seat 113 = .ok (.iload_n 1, 1) := by decide +kernel
theorem dX5_seat_114 : decode cX5_seat 114 = .ok (.iconst 1, 1) := by decide +kernel
theorem dX5_seat_115 : decode cX5_seat 115 = .ok (.iadd, 1) := by decide +kernel
theorem dX5_seat_116 : decode cX5_seat 116 = .ok (.iload_n 2, 1) := by decide +kernel
theorem dX5_seat_117 : decode cX5_seat 117 = .ok (.invokevirtual 103, 3) := by decide +kernel
theorem dX5_seat_120 : decode cX5_seat 120 = .ok (.ifCond .eq 5, 3) := by decide +kernel
theorem dX5_seat_123 : decode cX5_seat 123 = .ok (.iconst 1, 1) := by decide +kernel
theorem dX5_seat_124 : decode cX5_seat 124 = .ok (.ireturn, 1) := by decide +kernel
theorem dX5_seat_125 : decode cX5_seat 125 = .ok (.aload_n 0, 1) := by decide +kernel
theorem dX5_seat_126 : decode cX5_seat 126 = .ok (.getfield 12, 3) := by decide +kernel
theorem dX5_seat_129 : decode cX5_seat 129 = .ok (.iload 6, 2) := by decide +kernel
theorem dX5_seat_131 : decode cX5_seat 131 = .ok (.iconst 1, 1) := by decide +kernel
theorem dX5_seat_132 : decode cX5_seat 132 = .ok (.invokevirtual 117, 3) := by decide +kernel
theorem dX5_seat_135 : decode cX5_seat 135 = .ok (.iinc 5 1, 3) := by decide +kernel
theorem dX5_seat_138 : decode cX5_seat 138 = .ok (.goto (-72), 3) := by decide +kernel
theorem dX5_seat_141 : decode cX5_seat 141 = .ok (.iconst 0, 1) := by decide +kernel
theorem dX5_seat_142 : decode cX5_seat 142 = .ok (.ireturn, 1) := by decide +kernel
theorem dX5_mostSeated_0 : decode cX5_mostSeated 0 = .ok (.aload_n 0, 1) := by decide +kernel
theorem dX5_mostSeated_1 : decode cX5_mostSeated 1 = .ok (.getfield 12, 3) := by decide +kernel
theorem dX5_mostSeated_4 : decode cX5_mostSeated 4 = .ok (.aload_n 0, 1) := by decide +kernel
theorem dX5_mostSeated_5 : decode cX5_mostSeated 5 = .ok (.getfield 52, 3) := by decide +kernel
theorem dX5_mostSeated_8 : decode cX5_mostSeated 8 = .ok (.invokevirtual 58, 3) := by decide +kernel
theorem dX5_mostSeated_11 : decode cX5_mostSeated 11 = .ok (.iconst 0, 1) := by decide +kernel
theorem dX5_mostSeated_12 : decode cX5_mostSeated 12 = .ok (.istore_n 1, 1) := by decide +kernel
theorem dX5_mostSeated_13 : decode cX5_mostSeated 13 = .ok (.iload_n 1, 1) := by decide +kernel
theorem dX5_mostSeated_14 : decode cX5_mostSeated 14 = .ok (.aload_n 0, 1) := by decide +kernel
theorem dX5_mostSeated_15 : decode cX5_mostSeated 15 = .ok (.getfield 44, 3) := by decide +kernel
theorem dX5_mostSeated_18 : decode cX5_mostSeated 18 = .ok (.getfield 100, 3) := by decide +kernel
theorem dX5_mostSeated_21 : decode cX5_mostSeated 21 = .ok (.if_icmp .gt 28, 3) := by decide +kernel
theorem dX5_mostSeated_24 : decode cX5_mostSeated 24 = .ok (.aload_n 0, 1) := by decide +kernel
theorem dX5_mostSeated_25 : decode cX5_mostSeated 25 = .ok (.iconst 0, 1) := by decide +kernel
theorem dX5_mostSeated_26 : decode cX5_mostSeated 26 = .ok (.iload_n 1, 1) := by decide +kernel
theorem dX5_mostSeated_27 : decode cX5_mostSeated 27 = .ok (.invokevirtual 103, 3) := by decide +kernel
theorem dX5_mostSeated_30 : decode cX5_mostSeated 30 = .ok (.ifCond .eq 13, 3) := by decide +kernel
theorem dX5_mostSeated_33 : decode cX5_mostSeated 33 = .ok (.aload_n 0, 1) := by decide +kernel
theorem dX5_mostSeated_34 : decode cX5_mostSeated 34 = .ok (.getfield 44, 3) := by decide +kernel
theorem dX5_mostSeated_37 : decode cX5_mostSeated 37 = .ok (.getfield 100, 3) := by decide +kernel
theorem dX5_mostSeated_40 : decode cX5_mostSeated 40 = .ok (.iload_n 1, 1) := by decide +kernel
theorem dX5_mostSeated_41 : decode cX5_mostSeated 41 = .ok (.isub, 1) := by decide +kernel
theorem dX5_mostSeated_42 : decode cX5_mostSeated 42 = .ok (.ireturn, 1) := by decide +kernel
theorem dX5_mostSeated_43 : decode cX5_mostSeated 43 = .ok (.iinc 1 1, 3) := by decide +kernel
theorem dX5_mostSeated_46 : decode cX5_mostSeated 46 = .ok (.goto (-33), 3) := by decide +kernel
theorem dX5_mostSeated_49 : decode cX5_mostSeated 49 = .ok (.iconst 0, 1) := by decide +kernel
theorem dX5_mostSeated_50 : decode cX5_mostSeated 50 = .ok (.ireturn, 1) := by decide +kernel
theorem dX9_lose_0 : decode cX9_lose 0 = .ok (.iload_n 1, 1) := by decide +kernel
theorem dX9_lose_1 : decode cX9_lose 1 = .ok (.iconst 1, 1) := by decide +kernel
theorem dX9_lose_2 : decode cX9_lose 2 = .ok (.if_icmp .lt 19, 3) := by decide +kernel
theorem dX9_lose_5 : decode cX9_lose 5 = .ok (.iload_n 1, 1) := by decide +kernel
theorem dX9_lose_6 : decode cX9_lose 6 = .ok (.bipush 24, 2) := by decide +kernel
theorem dX9_lose_8 : decode cX9_lose 8 = .ok (.if_icmp .gt 13, 3) := by decide +kernel
theorem dX9_lose_11 : decode cX9_lose 11 = .ok (.aload_n 0, 1) := by decide +kernel
theorem dX9_lose_12 : decode cX9_lose 12 = .ok (.getfield 15, 3) := by decide +kernel
theorem dX9_lose_15 : decode cX9_lose 15 = .ok (.iload_n 1, 1) := by decide +kernel
theorem dX9_lose_16 : decode cX9_lose 16 = .ok (.iaload, 1) := by decide +kernel
theorem dX9_lose_17 : decode cX9_lose 17 = .ok (.iconst 1, 1) := by decide +kernel
theorem dX9_lose_18 : decode cX9_lose 18 = .ok (.if_icmp .ge 5, 3) := by decide +kernel
theorem dX9_lose_21 : decode cX9_lose 21 = .ok (.iconst 0, 1) := by decide +kernel
theorem dX9_lose_22 : decode cX9_lose 22 = .ok (.ireturn, 1) := by decide +kernel
theorem dX9_lose_23 : decode cX9_lose 23 = .ok (.aload_n 0, 1) := by decide +kernel
theorem dX9_lose_24 : decode cX9_lose 24 = .ok (.getfield 15, 3) := by decide +kernel
theorem dX9_lose_27 : decode cX9_lose 27 = .ok (.iload_n 1, 1) := by decide +kernel
theorem dX9_lose_28 : decode cX9_lose 28 = .ok (.dup2, 1) := by decide +kernel
theorem dX9_lose_29 : decode cX9_lose 29 = .ok (.iaload, 1) := by decide +kernel
theorem dX9_lose_30 : decode cX9_lose 30 = .ok (.iconst 1, 1) := by decide +kernel
theorem dX9_lose_31 : decode cX9_lose 31 = .ok (.isub, 1) := by decide +kernel
theorem dX9_lose_32 : decode cX9_lose 32 = .ok (.iastore, 1) := by decide +kernel
theorem dX9_lose_33 : decode cX9_lose 33 = .ok (.iconst 1, 1) := by decide +kernel
theorem dX9_lose_34 : decode cX9_lose 34 = .ok (.ireturn, 1) := by decide +kernel
theorem dX5_servedWithout_0 : decode cX5_servedWithout 0 = .ok (.aload_n 0, 1) := by decide +kernel
theorem dX5_servedWithout_1 : decode cX5_servedWithout 1 = .ok (.getfield 12, 3) := by decide +kernel
theorem dX5_servedWithout_4 : decode cX5_servedWithout 4 = .ok (.aload_n 0, 1) := by decide +kernel
theorem dX5_servedWithout_5 : decode cX5_servedWithout 5 = .ok (.getfield 52, 3) := by decide +kernel
theorem dX5_servedWithout_8 : decode cX5_servedWithout 8 = .ok (.invokevirtual 58, 3) := by decide +kernel
theorem dX5_servedWithout_11 : decode cX5_servedWithout 11 = .ok (.aload_n 0, 1) := by decide +kernel
theorem dX5_servedWithout_12 : decode cX5_servedWithout 12 = .ok (.getfield 12, 3) := by decide +kernel
theorem dX5_servedWithout_15 : decode cX5_servedWithout 15 = .ok (.iload_n 1, 1) := by decide +kernel
theorem dX5_servedWithout_16 : decode cX5_servedWithout 16 = .ok (.invokevirtual 126, 3) := by decide +kernel
theorem dX5_servedWithout_19 : decode cX5_servedWithout 19 = .ok (.pop, 1) := by decide +kernel
theorem dX5_servedWithout_20 : decode cX5_servedWithout 20 = .ok (.aload_n 0, 1) := by decide +kernel
theorem dX5_servedWithout_21 : decode cX5_servedWithout 21 = .ok (.getfield 48, 3) := by decide +kernel
theorem dX5_servedWithout_24 : decode cX5_servedWithout 24 = .ok (.aload_n 0, 1) := by decide +kernel
theorem dX5_servedWithout_25 : decode cX5_servedWithout 25 = .ok (.getfield 12, 3) := by decide +kernel
theorem dX5_servedWithout_28 : decode cX5_servedWithout 28 = .ok (.invokevirtual 62, 3) := by decide +kernel
theorem dX5_servedWithout_31 : decode cX5_servedWithout 31 = .ok (.iload_n 2, 1) := by decide +kernel
theorem dX5_servedWithout_32 : decode cX5_servedWithout 32 = .ok (.ishr, 1) := by decide +kernel
theorem dX5_servedWithout_33 : decode cX5_servedWithout 33 = .ok (.iconst 1, 1) := by decide +kernel
theorem dX5_servedWithout_34 : decode cX5_servedWithout 34 = .ok (.iand, 1) := by decide +kernel
theorem dX5_servedWithout_35 : decode cX5_servedWithout 35 = .ok (.ireturn, 1) := by decide +kernel
theorem dX5_oddsOf_0 : decode cX5_oddsOf 0 = .ok (.aload_n 0, 1) := by decide +kernel
theorem dX5_oddsOf_1 : decode cX5_oddsOf 1 = .ok (.iconst 0, 1) := by decide +kernel
theorem dX5_oddsOf_2 : decode cX5_oddsOf 2 = .ok (.iload_n 1, 1) := by decide +kernel
theorem dX5_oddsOf_3 : decode cX5_oddsOf 3 = .ok (.invokevirtual 120, 3) := by decide +kernel
theorem dX5_oddsOf_6 : decode cX5_oddsOf 6 = .ok (.istore_n 2, 1) := by decide +kernel
theorem dX5_oddsOf_7 : decode cX5_oddsOf 7 = .ok (.iload_n 2, 1) := by decide +kernel
theorem dX5_oddsOf_8 : decode cX5_oddsOf 8 = .ok (.bipush 100, 2) := by decide +kernel
theorem dX5_oddsOf_10 : decode cX5_oddsOf 10 = .ok (.aload_n 0, 1) := by decide +kernel
theorem dX5_oddsOf_11 : decode cX5_oddsOf 11 = .ok (.getfield 44, 3) := by decide +kernel
theorem dX5_oddsOf_14 : decode cX5_oddsOf 14 = .ok (.getfield 123, 3) := by decide +kernel
theorem dX5_oddsOf_17 : decode cX5_oddsOf 17 = .ok (.isub, 1) := by decide +kernel
theorem dX5_oddsOf_18 : decode cX5_oddsOf 18 = .ok (.imul, 1) := by decide +kernel
theorem dX5_oddsOf_19 : decode cX5_oddsOf 19 = .ok (.aload_n 0, 1) := by decide +kernel
theorem dX5_oddsOf_20 : decode cX5_oddsOf 20 = .ok (.getfield 44, 3) := by decide +kernel
theorem dX5_oddsOf_23 : decode cX5_oddsOf 23 = .ok (.getfield 88, 3) := by decide +kernel
theorem dX5_oddsOf_26 : decode cX5_oddsOf 26 = .ok (.imul, 1) := by decide +kernel
theorem dX5_oddsOf_27 : decode cX5_oddsOf 27 = .ok (.istore_n 3, 1) := by decide +kernel
theorem dX5_oddsOf_28 : decode cX5_oddsOf 28 = .ok (.iconst 1, 1) := by decide +kernel
theorem dX5_oddsOf_29 : decode cX5_oddsOf 29 = .ok (.istore 4, 2) := by decide +kernel
theorem dX5_oddsOf_31 : decode cX5_oddsOf 31 = .ok (.iload 4, 2) := by decide +kernel
theorem dX5_oddsOf_33 : decode cX5_oddsOf 33 = .ok (.aload_n 0, 1) := by decide +kernel
theorem dX5_oddsOf_34 : decode cX5_oddsOf 34 = .ok (.getfield 44, 3) := by decide +kernel
theorem dX5_oddsOf_37 : decode cX5_oddsOf 37 = .ok (.getfield 88, 3) := by decide +kernel
theorem dX5_oddsOf_40 : decode cX5_oddsOf 40 = .ok (.if_icmp .gt 54, 3) := by decide +kernel
theorem dX5_oddsOf_43 : decode cX5_oddsOf 43 = .ok (.aload_n 0, 1) := by decide +kernel
theorem dX5_oddsOf_44 : decode cX5_oddsOf 44 = .ok (.getfield 44, 3) := by decide +kernel
theorem dX5_oddsOf_47 : decode cX5_oddsOf 47 = .ok (.getfield 123, 3) := by decide +kernel
theorem dX5_oddsOf_50 : decode cX5_oddsOf 50 = .ok (.ifCond .le 44, 3) := by decide +kernel
theorem dX5_oddsOf_53 : decode cX5_oddsOf 53 = .ok (.iload_n 3, 1) := by decide +kernel
theorem dX5_oddsOf_54 : decode cX5_oddsOf 54 = .ok (.aload_n 0, 1) := by decide +kernel
theorem dX5_oddsOf_55 : decode cX5_oddsOf 55 = .ok (.getfield 44, 3) := by decide +kernel
theorem dX5_oddsOf_58 : decode cX5_oddsOf 58 = .ok (.getfield 123, 3) := by decide +kernel
theorem dX5_oddsOf_61 : decode cX5_oddsOf 61 = .ok (.aload_n 0, 1) := by decide +kernel
theorem dX5_oddsOf_62 : decode cX5_oddsOf 62 = .ok (.getfield 52, 3) := by decide +kernel
theorem dX5_oddsOf_65 : decode cX5_oddsOf 65 = .ok (.getfield 68, 3) := by decide +kernel
theorem dX5_oddsOf_68 : decode cX5_oddsOf 68 = .ok (.iload 4, 2) := by decide +kernel
theorem dX5_oddsOf_70 : decode cX5_oddsOf 70 = .ok (.iaload, 1) := by decide +kernel
theorem dX5_oddsOf_71 : decode cX5_oddsOf 71 = .ok (.ifCond .le 13, 3) := by decide +kernel
theorem dX5_oddsOf_74 : decode cX5_oddsOf 74 = .ok (.aload_n 0, 1) := by decide +kernel
theorem dX5_oddsOf_75 : decode cX5_oddsOf 75 = .ok (.iload 4, 2) := by decide +kernel
theorem dX5_oddsOf_77 : decode cX5_oddsOf 77 = .ok (.iload_n 1, 1) := by decide +kernel
theorem dX5_oddsOf_78 : decode cX5_oddsOf 78 = .ok (.invokevirtual 120, 3) := by decide +kernel
theorem dX5_oddsOf_81 : decode cX5_oddsOf 81 = .ok (.goto 4, 3) := by decide +kernel
theorem dX5_oddsOf_84 : decode cX5_oddsOf 84 = .ok (.iload_n 2, 1) := by decide +kernel
theorem dX5_oddsOf_85 : decode cX5_oddsOf 85 = .ok (.imul, 1) := by decide +kernel
theorem dX5_oddsOf_86 : decode cX5_oddsOf 86 = .ok (.iadd, 1) := by decide +kernel
theorem dX5_oddsOf_87 : decode cX5_oddsOf 87 = .ok (.istore_n 3, 1) := by decide +kernel
theorem dX5_oddsOf_88 : decode cX5_oddsOf 88 = .ok (.iinc 4 1, 3) := by decide +kernel
theorem dX5_oddsOf_91 : decode cX5_oddsOf 91 = .ok (.goto (-60), 3) := by decide +kernel
theorem dX5_oddsOf_94 : decode cX5_oddsOf 94 = .ok (.iload_n 3, 1) := by decide +kernel
theorem dX5_oddsOf_95 : decode cX5_oddsOf 95 = .ok (.ireturn, 1) := by decide +kernel
theorem dX5_possibleStocks_0 : decode cX5_possibleStocks 0 = .ok (.aload_n 0, 1) := by decide +kernel
theorem dX5_possibleStocks_1 : decode cX5_possibleStocks 1 = .ok (.invokevirtual 146, 3) := by decide +kernel
theorem dX5_possibleStocks_4 : decode cX5_possibleStocks 4 = .ok (.iconst 1, 1) := by decide +kernel
theorem dX5_possibleStocks_5 : decode cX5_possibleStocks 5 = .ok (.iadd, 1) := by decide +kernel
theorem dX5_possibleStocks_6 : decode cX5_possibleStocks 6 = .ok (.istore_n 2, 1) := by decide +kernel
theorem dX5_possibleStocks_7 : decode cX5_possibleStocks 7 = .ok (.iload_n 2, 1) := by decide +kernel
theorem dX5_possibleStocks_8 : decode cX5_possibleStocks 8 = .ok (.aload_n 0, 1) := by decide +kernel
theorem dX5_possibleStocks_9 : decode cX5_possibleStocks 9 = .ok (.invokevirtual 149, 3) := by decide +kernel
theorem dX5_possibleStocks_12 : decode cX5_possibleStocks 12 = .ok (.if_icmp .le 5, 3) := by decide +kernel
theorem dX5_possibleStocks_15 : decode cX5_possibleStocks 15 = .ok (.iconst 0, 1) := by decide +kernel
theorem dX5_possibleStocks_16 : decode cX5_possibleStocks 16 = .ok (.ireturn, 1) := by decide +kernel
theorem dX5_possibleStocks_17 : decode cX5_possibleStocks 17 = .ok (.aload_n 0, 1) := by decide +kernel
theorem dX5_possibleStocks_18 : decode cX5_possibleStocks 18 = .ok (.iload_n 1, 1) := by decide +kernel
theorem dX5_possibleStocks_19 : decode cX5_possibleStocks 19 = .ok (.iload_n 2, 1) := by decide +kernel
theorem dX5_possibleStocks_20 : decode cX5_possibleStocks 20 = .ok (.invokevirtual 152, 3) := by decide +kernel
theorem dX5_possibleStocks_23 : decode cX5_possibleStocks 23 = .ok (.aload_n 0, 1) := by decide +kernel
theorem dX5_possibleStocks_24 : decode cX5_possibleStocks 24 = .ok (.invokevirtual 155, 3) := by decide +kernel
theorem dX5_possibleStocks_27 : decode cX5_possibleStocks 27 = .ok (.ireturn, 1) := by decide +kernel
theorem dX5_seeTape_0 : decode cX5_seeTape 0 = .ok (.aload_n 1, 1) := by decide +kernel
theorem dX5_seeTape_1 : decode cX5_seeTape 1 = .ok (.getfield 129, 3) := by decide +kernel
theorem dX5_seeTape_4 : decode cX5_seeTape 4 = .ok (.iconst 3, 1) := by decide +kernel
theorem dX5_seeTape_5 : decode cX5_seeTape 5 = .ok (.idiv, 1) := by decide +kernel
theorem dX5_seeTape_6 : decode cX5_seeTape 6 = .ok (.istore_n 2, 1) := by decide +kernel
theorem dX5_seeTape_7 : decode cX5_seeTape 7 = .ok (.iload_n 2, 1) := by decide +kernel
theorem dX5_seeTape_8 : decode cX5_seeTape 8 = .ok (.iconst 1, 1) := by decide +kernel
theorem dX5_seeTape_9 : decode cX5_seeTape 9 = .ok (.if_icmp .lt 19, 3) := by decide +kernel
theorem dX5_seeTape_12 : decode cX5_seeTape 12 = .ok (.iload_n 2, 1) := by decide +kernel
theorem dX5_seeTape_13 : decode cX5_seeTape 13 = .ok (.bipush 16, 2) := by decide +kernel
theorem dX5_seeTape_15 : decode cX5_seeTape 15 = .ok (.if_icmp .gt 13, 3) := by decide +kernel
theorem dX5_seeTape_18 : decode cX5_seeTape 18 = .ok (.aload_n 1, 1) := by decide +kernel
theorem dX5_seeTape_19 : decode cX5_seeTape 19 = .ok (.getfield 129, 3) := by decide +kernel
theorem dX5_seeTape_22 : decode cX5_seeTape 22 = .ok (.iload_n 2, 1) := by decide +kernel
theorem dX5_seeTape_23 : decode cX5_seeTape 23 = .ok (.iconst 3, 1) := by decide +kernel
theorem dX5_seeTape_24 : decode cX5_seeTape 24 = .ok (.imul, 1) := by decide +kernel
theorem dX5_seeTape_25 : decode cX5_seeTape 25 = .ok (.if_icmp .eq 5, 3) := by decide +kernel
theorem dX5_seeTape_28 : decode cX5_seeTape 28 = .ok (.iconst (-1), 1) := by decide +kernel
theorem dX5_seeTape_29 : decode cX5_seeTape 29 = .ok (.ireturn, 1) := by decide +kernel
theorem dX5_seeTape_30 : decode cX5_seeTape 30 = .ok (.iconst 0, 1) := by decide +kernel
theorem dX5_seeTape_31 : decode cX5_seeTape 31 = .ok (.istore_n 3, 1) := by decide +kernel
theorem dX5_seeTape_32 : decode cX5_seeTape 32 = .ok (.iload_n 3, 1) := by decide +kernel
theorem dX5_seeTape_33 : decode cX5_seeTape 33 = .ok (.aload_n 1, 1) := by decide +kernel
theorem dX5_seeTape_34 : decode cX5_seeTape 34 = .ok (.getfield 129, 3) := by decide +kernel
theorem dX5_seeTape_37 : decode cX5_seeTape 37 = .ok (.if_icmp .ge 52, 3) := by decide +kernel
theorem dX5_seeTape_40 : decode cX5_seeTape 40 = .ok (.aload_n 1, 1) := by decide +kernel
theorem dX5_seeTape_41 : decode cX5_seeTape 41 = .ok (.getfield 134, 3) := by decide +kernel
theorem dX5_seeTape_44 : decode cX5_seeTape 44 = .ok (.iload_n 3, 1) := by decide +kernel
theorem dX5_seeTape_45 : decode cX5_seeTape 45 = .ok (.iaload, 1) := by decide +kernel
theorem dX5_seeTape_46 : decode cX5_seeTape 46 = .ok (.bipush 31, 2) := by decide +kernel
theorem dX5_seeTape_48 : decode cX5_seeTape 48 = .ok (.if_icmp .ge 33, 3) := by decide +kernel
theorem dX5_seeTape_51 : decode cX5_seeTape 51 = .ok (.aload_n 1, 1) := by decide +kernel
theorem dX5_seeTape_52 : decode cX5_seeTape 52 = .ok (.getfield 134, 3) := by decide +kernel
theorem dX5_seeTape_55 : decode cX5_seeTape 55 = .ok (.iload_n 3, 1) := by decide +kernel
theorem dX5_seeTape_56 : decode cX5_seeTape 56 = .ok (.iconst 1, 1) := by decide +kernel
theorem dX5_seeTape_57 : decode cX5_seeTape 57 = .ok (.iadd, 1) := by decide +kernel
theorem dX5_seeTape_58 : decode cX5_seeTape 58 = .ok (.iaload, 1) := by decide +kernel
theorem dX5_seeTape_59 : decode cX5_seeTape 59 = .ok (.aload_n 0, 1) := by decide +kernel
theorem dX5_seeTape_60 : decode cX5_seeTape 60 = .ok (.getfield 44, 3) := by decide +kernel
theorem dX5_seeTape_63 : decode cX5_seeTape 63 = .ok (.getfield 100, 3) := by decide +kernel
theorem dX5_seeTape_66 : decode cX5_seeTape 66 = .ok (.if_icmp .ge 15, 3) := by decide +kernel
theorem dX5_seeTape_69 : decode cX5_seeTape 69 = .ok (.aload_n 1, 1) := by decide +kernel
theorem dX5_seeTape_70 : decode cX5_seeTape 70 = .ok (.getfield 134, 3) := by decide +kernel
theorem dX5_seeTape_73 : decode cX5_seeTape 73 = .ok (.iload_n 3, 1) := by decide +kernel
theorem dX5_seeTape_74 : decode cX5_seeTape 74 = .ok (.iconst 2, 1) := by decide +kernel
theorem dX5_seeTape_75 : decode cX5_seeTape 75 = .ok (.iadd, 1) := by decide +kernel
theorem dX5_seeTape_76 : decode cX5_seeTape 76 = .ok (.iaload, 1) := by decide +kernel
theorem dX5_seeTape_77 : decode cX5_seeTape 77 = .ok (.iconst 1, 1) := by decide +kernel
theorem dX5_seeTape_78 : decode cX5_seeTape 78 = .ok (.if_icmp .le 5, 3) := by decide +kernel
theorem dX5_seeTape_81 : decode cX5_seeTape 81 = .ok (.iconst (-1), 1) := by decide +kernel
theorem dX5_seeTape_82 : decode cX5_seeTape 82 = .ok (.ireturn, 1) := by decide +kernel
theorem dX5_seeTape_83 : decode cX5_seeTape 83 = .ok (.iinc 3 3, 3) := by decide +kernel
theorem dX5_seeTape_86 : decode cX5_seeTape 86 = .ok (.goto (-54), 3) := by decide +kernel
theorem dX5_seeTape_89 : decode cX5_seeTape 89 = .ok (.aload_n 1, 1) := by decide +kernel
theorem dX5_seeTape_90 : decode cX5_seeTape 90 = .ok (.getfield 134, 3) := by decide +kernel
theorem dX5_seeTape_93 : decode cX5_seeTape 93 = .ok (.iconst 0, 1) := by decide +kernel
theorem dX5_seeTape_94 : decode cX5_seeTape 94 = .ok (.aload_n 0, 1) := by decide +kernel
theorem dX5_seeTape_95 : decode cX5_seeTape 95 = .ok (.getfield 25, 3) := by decide +kernel
theorem dX5_seeTape_98 : decode cX5_seeTape 98 = .ok (.iconst 0, 1) := by decide +kernel
theorem dX5_seeTape_99 : decode cX5_seeTape 99 = .ok (.aload_n 1, 1) := by decide +kernel
theorem dX5_seeTape_100 : decode cX5_seeTape 100 = .ok (.getfield 129, 3) := by decide +kernel
theorem dX5_seeTape_103 : decode cX5_seeTape 103 = .ok (.invokestatic 137, 3) := by decide +kernel
theorem dX5_seeTape_106 : decode cX5_seeTape 106 = .ok (.aload_n 0, 1) := by decide +kernel
theorem dX5_seeTape_107 : decode cX5_seeTape 107 = .ok (.iload_n 2, 1) := by decide +kernel
theorem dX5_seeTape_108 : decode cX5_seeTape 108 = .ok (.putfield 28, 3) := by decide +kernel
theorem dX5_seeTape_111 : decode cX5_seeTape 111 = .ok (.iload_n 2, 1) := by decide +kernel
theorem dX5_seeTape_112 : decode cX5_seeTape 112 = .ok (.ireturn, 1) := by decide +kernel
theorem dX6_questionHere_0 : decode cX6_questionHere 0 = .ok (.aload_n 0, 1) := by decide +kernel
theorem dX6_questionHere_1 : decode cX6_questionHere 1 = .ok (.getfield 19, 3) := by decide +kernel
theorem dX6_questionHere_4 : decode cX6_questionHere 4 = .ok (.ldc 60, 2) := by decide +kernel
theorem dX6_questionHere_6 : decode cX6_questionHere 6 = .ok (.invokevirtual 62, 3) := by decide +kernel
theorem dX6_questionHere_9 : decode cX6_questionHere 9 = .ok (.ifCond .eq 5, 3) := by decide +kernel
theorem dX6_questionHere_12 : decode cX6_questionHere 12 = .ok (.iconst 1, 1) := by decide +kernel
theorem dX6_questionHere_13 : decode cX6_questionHere 13 = .ok (.ireturn, 1) := by decide +kernel
theorem dX6_questionHere_14 : decode cX6_questionHere 14 = .ok (.aload_n 0, 1) := by decide +kernel
theorem dX6_questionHere_15 : decode cX6_questionHere 15 = .ok (.getfield 19, 3) := by decide +kernel
theorem dX6_questionHere_18 : decode cX6_questionHere 18 = .ok (.ldc 66, 2) := by decide +kernel
theorem dX6_questionHere_20 : decode cX6_questionHere 20 = .ok (.invokevirtual 62, 3) := by decide +kernel
theorem dX6_questionHere_23 : decode cX6_questionHere 23 = .ok (.ifCond .eq 5, 3) := by decide +kernel
theorem dX6_questionHere_26 : decode cX6_questionHere 26 = .ok (.iconst 2, 1) := by decide +kernel
theorem dX6_questionHere_27 : decode cX6_questionHere 27 = .ok (.ireturn, 1) := by decide +kernel
theorem dX6_questionHere_28 : decode cX6_questionHere 28 = .ok (.aload_n 0, 1) := by decide +kernel
theorem dX6_questionHere_29 : decode cX6_questionHere 29 = .ok (.getfield 19, 3) := by decide +kernel
theorem dX6_questionHere_32 : decode cX6_questionHere 32 = .ok (.ldc 68, 2) := by decide +kernel
theorem dX6_questionHere_34 : decode cX6_questionHere 34 = .ok (.invokevirtual 62, 3) := by decide +kernel
theorem dX6_questionHere_37 : decode cX6_questionHere 37 = .ok (.ifCond .eq 5, 3) := by decide +kernel
theorem dX6_questionHere_40 : decode cX6_questionHere 40 = .ok (.iconst 3, 1) := by decide +kernel
theorem dX6_questionHere_41 : decode cX6_questionHere 41 = .ok (.ireturn, 1) := by decide +kernel
theorem dX6_questionHere_42 : decode cX6_questionHere 42 = .ok (.aload_n 0, 1) := by decide +kernel
theorem dX6_questionHere_43 : decode cX6_questionHere 43 = .ok (.getfield 19, 3) := by decide +kernel
theorem dX6_questionHere_46 : decode cX6_questionHere 46 = .ok (.ldc 70, 2) := by decide +kernel
theorem dX6_questionHere_48 : decode cX6_questionHere 48 = .ok (.invokevirtual 62, 3) := by decide +kernel
theorem dX6_questionHere_51 : decode cX6_questionHere 51 = .ok (.ifCond .eq 5, 3) := by decide +kernel
theorem dX6_questionHere_54 : decode cX6_questionHere 54 = .ok (.iconst 4, 1) := by decide +kernel
theorem dX6_questionHere_55 : decode cX6_questionHere 55 = .ok (.ireturn, 1) := by decide +kernel
theorem dX6_questionHere_56 : decode cX6_questionHere 56 = .ok (.aload_n 0, 1) := by decide +kernel
theorem dX6_questionHere_57 : decode cX6_questionHere 57 = .ok (.getfield 19, 3) := by decide +kernel
theorem dX6_questionHere_60 : decode cX6_questionHere 60 = .ok (.ldc 72, 2) := by decide +kernel
theorem dX6_questionHere_62 : decode cX6_questionHere 62 = .ok (.invokevirtual 62, 3) := by decide +kernel
theorem dX6_questionHere_65 : decode cX6_questionHere 65 = .ok (.ifCond .eq 5, 3) := by decide +kernel
theorem dX6_questionHere_68 : decode cX6_questionHere 68 = .ok (.iconst 5, 1) := by decide +kernel
theorem dX6_questionHere_69 : decode cX6_questionHere 69 = .ok (.ireturn, 1) := by decide +kernel
theorem dX6_questionHere_70 : decode cX6_questionHere 70 = .ok (.aload_n 0, 1) := by decide +kernel
theorem dX6_questionHere_71 : decode cX6_questionHere 71 = .ok (.getfield 19, 3) := by decide +kernel
theorem dX6_questionHere_74 : decode cX6_questionHere 74 = .ok (.ldc 74, 2) := by decide +kernel
theorem dX6_questionHere_76 : decode cX6_questionHere 76 = .ok (.invokevirtual 62, 3) := by decide +kernel
theorem dX6_questionHere_79 : decode cX6_questionHere 79 = .ok (.ifCond .eq 8, 3) := by decide +kernel
theorem dX6_questionHere_82 : decode cX6_questionHere 82 = .ok (.bipush 6, 2) := by decide +kernel
theorem dX6_questionHere_84 : decode cX6_questionHere 84 = .ok (.goto 4, 3) := by decide +kernel
theorem dX6_questionHere_87 : decode cX6_questionHere 87 = .ok (.iconst 0, 1) := by decide +kernel
theorem dX6_questionHere_88 : decode cX6_questionHere 88 = .ok (.ireturn, 1) := by decide +kernel
theorem dX6_readQuestion_0 : decode cX6_readQuestion 0 = .ok (.aload_n 0, 1) := by decide +kernel
theorem dX6_readQuestion_1 : decode cX6_readQuestion 1 = .ok (.getfield 19, 3) := by decide +kernel
theorem dX6_readQuestion_4 : decode cX6_readQuestion 4 = .ok (.invokevirtual 35, 3) := by decide +kernel
theorem dX6_readQuestion_7 : decode cX6_readQuestion 7 = .ok (.aload_n 0, 1) := by decide +kernel
theorem dX6_readQuestion_8 : decode cX6_readQuestion 8 = .ok (.invokevirtual 40, 3) := by decide +kernel
theorem dX6_readQuestion_11 : decode cX6_readQuestion 11 = .ok (.istore_n 2, 1) := by decide +kernel
theorem dX6_readQuestion_12 : decode cX6_readQuestion 12 = .ok (.iload_n 2, 1) := by decide +kernel
theorem dX6_readQuestion_13 : decode cX6_readQuestion 13 = .ok (.ifCond .ne 14, 3) := by decide +kernel
theorem dX6_readQuestion_16 : decode cX6_readQuestion 16 = .ok (.aload_n 0, 1) := by decide +kernel
theorem dX6_readQuestion_17 : decode cX6_readQuestion 17 = .ok (.getfield 19, 3) := by decide +kernel
theorem dX6_readQuestion_20 : decode cX6_readQuestion 20 = .ok (.iconst 1, 1) := by decide +kernel
theorem dX6_readQuestion_21 : decode cX6_readQuestion 21 = .ok (.invokevirtual 44, 3) := by decide +kernel
theorem dX6_readQuestion_24 : decode cX6_readQuestion 24 = .ok (.pop, 1) := by decide +kernel
theorem dX6_readQuestion_25 : decode cX6_readQuestion 25 = .ok (.iconst 0, 1) := by decide +kernel
theorem dX6_readQuestion_26 : decode cX6_readQuestion 26 = .ok (.ireturn, 1) := by decide +kernel
theorem dX6_readQuestion_27 : decode cX6_readQuestion 27 = .ok (.aload_n 0, 1) := by decide +kernel
theorem dX6_readQuestion_28 : decode cX6_readQuestion 28 = .ok (.getfield 19, 3) := by decide +kernel
theorem dX6_readQuestion_31 : decode cX6_readQuestion 31 = .ok (.invokevirtual 47, 3) := by decide +kernel
theorem dX6_readQuestion_34 : decode cX6_readQuestion 34 = .ok (.iload_n 2, 1) := by decide +kernel
theorem dX6_readQuestion_35 : decode cX6_readQuestion 35 = .ok (.iconst 3, 1) := by decide +kernel
theorem dX6_readQuestion_36 : decode cX6_readQuestion 36 = .ok (.if_icmp .gt 12, 3) := by decide +kernel
theorem dX6_readQuestion_39 : decode cX6_readQuestion 39 = .ok (.aload_n 0, 1) := by decide +kernel
theorem dX6_readQuestion_40 : decode cX6_readQuestion 40 = .ok (.aload_n 1, 1) := by decide +kernel
theorem dX6_readQuestion_41 : decode cX6_readQuestion 41 = .ok (.iconst 2, 1) := by decide +kernel
theorem dX6_readQuestion_42 : decode cX6_readQuestion 42 = .ok (.invokevirtual 50, 3) := by decide +kernel
theorem dX6_readQuestion_45 : decode cX6_readQuestion 45 = .ok (.goto 9, 3) := by decide +kernel
theorem dX6_readQuestion_48 : decode cX6_readQuestion 48 = .ok (.aload_n 0, 1) := by decide +kernel
theorem dX6_readQuestion_49 : decode cX6_readQuestion 49 = .ok (.aload_n 1, 1) := by decide +kernel
theorem dX6_readQuestion_50 : decode cX6_readQuestion 50 = .ok (.iconst 2, 1) := by decide +kernel
theorem dX6_readQuestion_51 : decode cX6_readQuestion 51 = .ok (.invokevirtual 54, 3) := by decide +kernel
theorem dX6_readQuestion_54 : decode cX6_readQuestion 54 = .ok (.istore_n 3, 1) := by decide +kernel
theorem dX6_readQuestion_55 : decode cX6_readQuestion 55 = .ok (.iload_n 3, 1) := by decide +kernel
theorem dX6_readQuestion_56 : decode cX6_readQuestion 56 = .ok (.ifCond .ne 5, 3) := by decide +kernel
theorem dX6_readQuestion_59 : decode cX6_readQuestion 59 = .ok (.iconst 0, 1) := by decide +kernel
theorem dX6_readQuestion_60 : decode cX6_readQuestion 60 = .ok (.ireturn, 1) := by decide +kernel
theorem dX6_readQuestion_61 : decode cX6_readQuestion 61 = .ok (.aload_n 0, 1) := by decide +kernel
theorem dX6_readQuestion_62 : decode cX6_readQuestion 62 = .ok (.getfield 19, 3) := by decide +kernel
theorem dX6_readQuestion_65 : decode cX6_readQuestion 65 = .ok (.getfield 57, 3) := by decide +kernel
theorem dX6_readQuestion_68 : decode cX6_readQuestion 68 = .ok (.ifCond .eq 14, 3) := by decide +kernel
theorem dX6_readQuestion_71 : decode cX6_readQuestion 71 = .ok (.aload_n 0, 1) := by decide +kernel
theorem dX6_readQuestion_72 : decode cX6_readQuestion 72 = .ok (.getfield 19, 3) := by decide +kernel
theorem dX6_readQuestion_75 : decode cX6_readQuestion 75 = .ok (.iconst 1, 1) := by decide +kernel
theorem dX6_readQuestion_76 : decode cX6_readQuestion 76 = .ok (.invokevirtual 44, 3) := by decide +kernel
theorem dX6_readQuestion_79 : decode cX6_readQuestion 79 = .ok (.pop, 1) := by decide +kernel
theorem dX6_readQuestion_80 : decode cX6_readQuestion 80 = .ok (.iconst 0, 1) := by decide +kernel
theorem dX6_readQuestion_81 : decode cX6_readQuestion 81 = .ok (.ireturn, 1) := by decide +kernel
theorem dX6_readQuestion_82 : decode cX6_readQuestion 82 = .ok (.iload_n 2, 1) := by decide +kernel
theorem dX6_readQuestion_83 : decode cX6_readQuestion 83 = .ok (.ireturn, 1) := by decide +kernel
theorem dX7_isWayOf_0 : decode cX7_isWayOf 0 = .ok (.iconst 0, 1) := by decide +kernel
theorem dX7_isWayOf_1 : decode cX7_isWayOf 1 = .ok (.istore_n 3, 1) := by decide +kernel
theorem dX7_isWayOf_2 : decode cX7_isWayOf 2 = .ok (.iload_n 3, 1) := by decide +kernel
theorem dX7_isWayOf_3 : decode cX7_isWayOf 3 = .ok (.aload_n 0, 1) := by decide +kernel
theorem dX7_isWayOf_4 : decode cX7_isWayOf 4 = .ok (.getfield 60, 3) := by decide +kernel
theorem dX7_isWayOf_7 : decode cX7_isWayOf 7 = .ok (.iload_n 1, 1) := by decide +kernel
theorem dX7_isWayOf_8 : decode cX7_isWayOf 8 = .ok (.iaload, 1) := by decide +kernel
theorem dX7_isWayOf_9 : decode cX7_isWayOf 9 = .ok (.if_icmp .ge 21, 3) := by decide +kernel
theorem dX7_isWayOf_12 : decode cX7_isWayOf 12 = .ok (.aload_n 0, 1) := by decide +kernel
theorem dX7_isWayOf_13 : decode cX7_isWayOf 13 = .ok (.iload_n 1, 1) := by decide +kernel
theorem dX7_isWayOf_14 : decode cX7_isWayOf 14 = .ok (.iload_n 3, 1) := by decide +kernel
theorem dX7_isWayOf_15 : decode cX7_isWayOf 15 = .ok (.invokevirtual 83, 3) := by decide +kernel
theorem dX7_isWayOf_18 : decode cX7_isWayOf 18 = .ok (.iload_n 2, 1) := by decide +kernel
theorem dX7_isWayOf_19 : decode cX7_isWayOf 19 = .ok (.if_icmp .ne 5, 3) := by decide +kernel
theorem dX7_isWayOf_22 : decode cX7_isWayOf 22 = .ok (.iconst 1, 1) := by decide +kernel
theorem dX7_isWayOf_23 : decode cX7_isWayOf 23 = .ok (.ireturn, 1) := by decide +kernel
theorem dX7_isWayOf_24 : decode cX7_isWayOf 24 = .ok (.iinc 3 1, 3) := by decide +kernel
theorem dX7_isWayOf_27 : decode cX7_isWayOf 27 = .ok (.goto (-25), 3) := by decide +kernel
theorem dX7_isWayOf_30 : decode cX7_isWayOf 30 = .ok (.iconst 0, 1) := by decide +kernel
theorem dX7_isWayOf_31 : decode cX7_isWayOf 31 = .ok (.ireturn, 1) := by decide +kernel
theorem dX7_take_0 : decode cX7_take 0 = .ok (.aload_n 0, 1) := by decide +kernel
theorem dX7_take_1 : decode cX7_take 1 = .ok (.aload_n 1, 1) := by decide +kernel
theorem dX7_take_2 : decode cX7_take 2 = .ok (.getfield 9, 3) := by decide +kernel
theorem dX7_take_5 : decode cX7_take 5 = .ok (.putfield 9, 3) := by decide +kernel
theorem dX7_take_8 : decode cX7_take 8 = .ok (.aload_n 0, 1) := by decide +kernel
theorem dX7_take_9 : decode cX7_take 9 = .ok (.aload_n 1, 1) := by decide +kernel
theorem dX7_take_10 : decode cX7_take 10 = .ok (.getfield 15, 3) := by decide +kernel
theorem dX7_take_13 : decode cX7_take 13 = .ok (.putfield 15, 3) := by decide +kernel
theorem dX7_take_16 : decode cX7_take 16 = .ok (.aload_n 0, 1) := by decide +kernel
theorem dX7_take_17 : decode cX7_take 17 = .ok (.aload_n 1, 1) := by decide +kernel
theorem dX7_take_18 : decode cX7_take 18 = .ok (.getfield 18, 3) := by decide +kernel
theorem dX7_take_21 : decode cX7_take 21 = .ok (.putfield 18, 3) := by decide +kernel
theorem dX7_take_24 : decode cX7_take 24 = .ok (.aload_n 0, 1) := by decide +kernel
theorem dX7_take_25 : decode cX7_take 25 = .ok (.aload_n 1, 1) := by decide +kernel
theorem dX7_take_26 : decode cX7_take 26 = .ok (.getfield 21, 3) := by decide +kernel
theorem dX7_take_29 : decode cX7_take 29 = .ok (.putfield 21, 3) := by decide +kernel
theorem dX7_take_32 : decode cX7_take 32 = .ok (.aload_n 0, 1) := by decide +kernel
theorem dX7_take_33 : decode cX7_take 33 = .ok (.aload_n 1, 1) := by decide +kernel
theorem dX7_take_34 : decode cX7_take 34 = .ok (.getfield 24, 3) := by decide +kernel
theorem dX7_take_37 : decode cX7_take 37 = .ok (.putfield 24, 3) := by decide +kernel
theorem dX7_take_40 : decode cX7_take 40 = .ok (.aload_n 1, 1) := by decide +kernel
theorem dX7_take_41 : decode cX7_take 41 = .ok (.getfield 34, 3) := by decide +kernel
theorem dX7_take_44 : decode cX7_take 44 = .ok (.iconst 0, 1) := by decide +kernel
theorem dX7_take_45 : decode cX7_take 45 = .ok (.aload_n 0, 1) := by decide +kernel
theorem dX7_take_46 : decode cX7_take 46 = .ok (.getfield 34, 3) := by decide +kernel
theorem dX7_take_49 : decode cX7_take 49 = .ok (.iconst 0, 1) := by decide +kernel
theorem dX7_take_50 : decode cX7_take 50 = .ok (.bipush 6, 2) := by decide +kernel
theorem dX7_take_52 : decode cX7_take 52 = .ok (.invokestatic 73, 3) := by decide +kernel
theorem dX7_take_55 : decode cX7_take 55 = .ok (.aload_n 1, 1) := by decide +kernel
theorem dX7_take_56 : decode cX7_take 56 = .ok (.getfield 38, 3) := by decide +kernel
theorem dX7_take_59 : decode cX7_take 59 = .ok (.iconst 0, 1) := by decide +kernel
theorem dX7_take_60 : decode cX7_take 60 = .ok (.aload_n 0, 1) := by decide +kernel
theorem dX7_take_61 : decode cX7_take 61 = .ok (.getfield 38, 3) := by decide +kernel
theorem dX7_take_64 : decode cX7_take 64 = .ok (.iconst 0, 1) := by decide +kernel
theorem dX7_take_65 : decode cX7_take 65 = .ok (.bipush 6, 2) := by decide +kernel
theorem dX7_take_67 : decode cX7_take 67 = .ok (.invokestatic 73, 3) := by decide +kernel
theorem dX7_take_70 : decode cX7_take 70 = .ok (.aload_n 1, 1) := by decide +kernel
theorem dX7_take_71 : decode cX7_take 71 = .ok (.getfield 41, 3) := by decide +kernel
theorem dX7_take_74 : decode cX7_take 74 = .ok (.iconst 0, 1) := by decide +kernel
theorem dX7_take_75 : decode cX7_take 75 = .ok (.aload_n 0, 1) := by decide +kernel
theorem dX7_take_76 : decode cX7_take 76 = .ok (.getfield 41, 3) := by decide +kernel
theorem dX7_take_79 : decode cX7_take 79 = .ok (.iconst 0, 1) := by decide +kernel
theorem dX7_take_80 : decode cX7_take 80 = .ok (.bipush 6, 2) := by decide +kernel
theorem dX7_take_82 : decode cX7_take 82 = .ok (.invokestatic 73, 3) := by decide +kernel
theorem dX7_take_85 : decode cX7_take 85 = .ok (.aload_n 1, 1) := by decide +kernel
theorem dX7_take_86 : decode cX7_take 86 = .ok (.getfield 44, 3) := by decide +kernel
theorem dX7_take_89 : decode cX7_take 89 = .ok (.iconst 0, 1) := by decide +kernel
theorem dX7_take_90 : decode cX7_take 90 = .ok (.aload_n 0, 1) := by decide +kernel
theorem dX7_take_91 : decode cX7_take 91 = .ok (.getfield 44, 3) := by decide +kernel
theorem dX7_take_94 : decode cX7_take 94 = .ok (.iconst 0, 1) := by decide +kernel
theorem dX7_take_95 : decode cX7_take 95 = .ok (.bipush 25, 2) := by decide +kernel
theorem dX7_take_97 : decode cX7_take 97 = .ok (.invokestatic 73, 3) := by decide +kernel
theorem dX7_take_100 : decode cX7_take 100 = .ok (.aload_n 0, 1) := by decide +kernel
theorem dX7_take_101 : decode cX7_take 101 = .ok (.getfield 50, 3) := by decide +kernel
theorem dX7_take_104 : decode cX7_take 104 = .ok (.aload_n 1, 1) := by decide +kernel
theorem dX7_take_105 : decode cX7_take 105 = .ok (.getfield 50, 3) := by decide +kernel
theorem dX7_take_108 : decode cX7_take 108 = .ok (.invokevirtual 79, 3) := by decide +kernel
theorem dX7_take_111 : decode cX7_take 111 = .ok (.aload_n 0, 1) := by decide +kernel
theorem dX7_take_112 : decode cX7_take 112 = .ok (.getfield 54, 3) := by decide +kernel
theorem dX7_take_115 : decode cX7_take 115 = .ok (.aload_n 1, 1) := by decide +kernel
theorem dX7_take_116 : decode cX7_take 116 = .ok (.getfield 54, 3) := by decide +kernel
theorem dX7_take_119 : decode cX7_take 119 = .ok (.invokevirtual 79, 3) := by decide +kernel
theorem dX7_take_122 : decode cX7_take 122 = .ok (.return_, 1) := by decide +kernel
theorem dX7_tellWays_0 : decode cX7_tellWays 0 = .ok (.aload_n 0, 1) := by decide +kernel
theorem dX7_tellWays_1 : decode cX7_tellWays 1 = .ok (.getfield 60, 3) := by decide +kernel
theorem dX7_tellWays_4 : decode cX7_tellWays 4 = .ok (.iload_n 1, 1) := by decide +kernel
theorem dX7_tellWays_5 : decode cX7_tellWays 5 = .ok (.iload_n 3, 1) := by decide +kernel
theorem dX7_tellWays_6 : decode cX7_tellWays 6 = .ok (.iastore, 1) := by decide +kernel
theorem dX7_tellWays_7 : decode cX7_tellWays 7 = .ok (.aload_n 0, 1) := by decide +kernel
theorem dX7_tellWays_8 : decode cX7_tellWays 8 = .ok (.getfield 63, 3) := by decide +kernel
theorem dX7_tellWays_11 : decode cX7_tellWays 11 = .ok (.iload_n 1, 1) := by decide +kernel
theorem dX7_tellWays_12 : decode cX7_tellWays 12 = .ok (.iconst 0, 1) := by decide +kernel
theorem dX7_tellWays_13 : decode cX7_tellWays 13 = .ok (.iastore, 1) := by decide +kernel
theorem dX7_tellWays_14 : decode cX7_tellWays 14 = .ok (.iconst 0, 1) := by decide +kernel
theorem dX7_tellWays_15 : decode cX7_tellWays 15 = .ok (.istore 4, 2) := by decide +kernel
theorem dX7_tellWays_17 : decode cX7_tellWays 17 = .ok (.iload 4, 2) := by decide +kernel
theorem dX7_tellWays_19 : decode cX7_tellWays 19 = .ok (.iload_n 3, 1) := by decide +kernel
theorem dX7_tellWays_20 : decode cX7_tellWays 20 = .ok (.if_icmp .ge 45, 3) := by decide +kernel
theorem dX7_tellWays_23 : decode cX7_tellWays 23 = .ok (.iload 4, 2) := by decide +kernel
theorem dX7_tellWays_25 : decode cX7_tellWays 25 = .ok (.bipush 32, 2) := by decide +kernel
theorem dX7_tellWays_27 : decode cX7_tellWays 27 = .ok (.if_icmp .ge 38, 3) := by decide +kernel
theorem dX7_tellWays_30 : decode cX7_tellWays 30 = .ok (.aload_n 0, 1) := by decide +kernel
theorem dX7_tellWays_31 : decode cX7_tellWays 31 = .ok (.getfield 57, 3) := by decide +kernel
theorem dX7_tellWays_34 : decode cX7_tellWays 34 = .ok (.iload_n 1, 1) := by decide +kernel
theorem dX7_tellWays_35 : decode cX7_tellWays 35 = .ok (.bipush 32, 2) := by decide +kernel
theorem dX7_tellWays_37 : decode cX7_tellWays 37 = .ok (.imul, 1) := by decide +kernel
theorem dX7_tellWays_38 : decode cX7_tellWays 38 = .ok (.iload 4, 2) := by decide +kernel
theorem dX7_tellWays_40 : decode cX7_tellWays 40 = .ok (.iadd, 1) := by decide +kernel
theorem dX7_tellWays_41 : decode cX7_tellWays 41 = .ok (.aload_n 2, 1) := by decide +kernel
theorem dX7_tellWays_42 : decode cX7_tellWays 42 = .ok (.iload 4, 2) := by decide +kernel
theorem dX7_tellWays_44 : decode cX7_tellWays 44 = .ok (.iaload, 1) := by decide +kernel
theorem dX7_tellWays_45 : decode cX7_tellWays 45 = .ok (.iastore, 1) := by decide +kernel
theorem dX7_tellWays_46 : decode cX7_tellWays 46 = .ok (.aload_n 0, 1) := by decide +kernel
theorem dX7_tellWays_47 : decode cX7_tellWays 47 = .ok (.getfield 63, 3) := by decide +kernel
theorem dX7_tellWays_50 : decode cX7_tellWays 50 = .ok (.iload_n 1, 1) := by decide +kernel
theorem dX7_tellWays_51 : decode cX7_tellWays 51 = .ok (.dup2, 1) := by decide +kernel
theorem dX7_tellWays_52 : decode cX7_tellWays 52 = .ok (.iaload, 1) := by decide +kernel
theorem dX7_tellWays_53 : decode cX7_tellWays 53 = .ok (.aload_n 2, 1) := by decide +kernel
theorem dX7_tellWays_54 : decode cX7_tellWays 54 = .ok (.iload 4, 2) := by decide +kernel
theorem dX7_tellWays_56 : decode cX7_tellWays 56 = .ok (.iaload, 1) := by decide +kernel
theorem dX7_tellWays_57 : decode cX7_tellWays 57 = .ok (.ior, 1) := by decide +kernel
theorem dX7_tellWays_58 : decode cX7_tellWays 58 = .ok (.iastore, 1) := by decide +kernel
theorem dX7_tellWays_59 : decode cX7_tellWays 59 = .ok (.iinc 4 1, 3) := by decide +kernel
theorem dX7_tellWays_62 : decode cX7_tellWays 62 = .ok (.goto (-45), 3) := by decide +kernel
theorem dX7_tellWays_65 : decode cX7_tellWays 65 = .ok (.return_, 1) := by decide +kernel
theorem dX9_sumOfRow_0 : decode cX9_sumOfRow 0 = .ok (.iconst 0, 1) := by decide +kernel
theorem dX9_sumOfRow_1 : decode cX9_sumOfRow 1 = .ok (.istore_n 1, 1) := by decide +kernel
theorem dX9_sumOfRow_2 : decode cX9_sumOfRow 2 = .ok (.aload_n 0, 1) := by decide +kernel
theorem dX9_sumOfRow_3 : decode cX9_sumOfRow 3 = .ok (.astore_n 2, 1) := by decide +kernel
theorem dX9_sumOfRow_4 : decode cX9_sumOfRow 4 = .ok (.aload_n 2, 1) := by decide +kernel
theorem dX9_sumOfRow_5 : decode cX9_sumOfRow 5 = .ok (.arraylength, 1) := by decide +kernel
theorem dX9_sumOfRow_6 : decode cX9_sumOfRow 6 = .ok (.istore_n 3, 1) := by decide +kernel
theorem dX9_sumOfRow_7 : decode cX9_sumOfRow 7 = .ok (.iconst 0, 1) := by decide +kernel
theorem dX9_sumOfRow_8 : decode cX9_sumOfRow 8 = .ok (.istore 4, 2) := by decide +kernel
theorem dX9_sumOfRow_10 : decode cX9_sumOfRow 10 = .ok (.iload 4, 2) := by decide +kernel
theorem dX9_sumOfRow_12 : decode cX9_sumOfRow 12 = .ok (.iload_n 3, 1) := by decide +kernel
theorem dX9_sumOfRow_13 : decode cX9_sumOfRow 13 = .ok (.if_icmp .ge 20, 3) := by decide +kernel
theorem dX9_sumOfRow_16 : decode cX9_sumOfRow 16 = .ok (.aload_n 2, 1) := by decide +kernel
theorem dX9_sumOfRow_17 : decode cX9_sumOfRow 17 = .ok (.iload 4, 2) := by decide +kernel
theorem dX9_sumOfRow_19 : decode cX9_sumOfRow 19 = .ok (.iaload, 1) := by decide +kernel
theorem dX9_sumOfRow_20 : decode cX9_sumOfRow 20 = .ok (.istore 5, 2) := by decide +kernel
theorem dX9_sumOfRow_22 : decode cX9_sumOfRow 22 = .ok (.iload_n 1, 1) := by decide +kernel
theorem dX9_sumOfRow_23 : decode cX9_sumOfRow 23 = .ok (.iload 5, 2) := by decide +kernel
theorem dX9_sumOfRow_25 : decode cX9_sumOfRow 25 = .ok (.iadd, 1) := by decide +kernel
theorem dX9_sumOfRow_26 : decode cX9_sumOfRow 26 = .ok (.istore_n 1, 1) := by decide +kernel
theorem dX9_sumOfRow_27 : decode cX9_sumOfRow 27 = .ok (.iinc 4 1, 3) := by decide +kernel
theorem dX9_sumOfRow_30 : decode cX9_sumOfRow 30 = .ok (.goto (-20), 3) := by decide +kernel
theorem dX9_sumOfRow_33 : decode cX9_sumOfRow 33 = .ok (.iload_n 1, 1) := by decide +kernel
theorem dX9_sumOfRow_34 : decode cX9_sumOfRow 34 = .ok (.ireturn, 1) := by decide +kernel
theorem dX9_allPieces_0 : decode cX9_allPieces 0 = .ok (.aload_n 0, 1) := by decide +kernel
theorem dX9_allPieces_1 : decode cX9_allPieces 1 = .ok (.getfield 15, 3) := by decide +kernel
theorem dX9_allPieces_4 : decode cX9_allPieces 4 = .ok (.invokestatic 67, 3) := by decide +kernel
theorem dX9_allPieces_7 : decode cX9_allPieces 7 = .ok (.ireturn, 1) := by decide +kernel
theorem dX9_allTimes_0 : decode cX9_allTimes 0 = .ok (.aload_n 0, 1) := by decide +kernel
theorem dX9_allTimes_1 : decode cX9_allTimes 1 = .ok (.getfield 22, 3) := by decide +kernel
theorem dX9_allTimes_4 : decode cX9_allTimes 4 = .ok (.invokestatic 67, 3) := by decide +kernel
theorem dX9_allTimes_7 : decode cX9_allTimes 7 = .ok (.ireturn, 1) := by decide +kernel
theorem dX9_forgetKept_0 : decode cX9_forgetKept 0 = .ok (.aload_n 0, 1) := by decide +kernel
theorem dX9_forgetKept_1 : decode cX9_forgetKept 1 = .ok (.iconst 0, 1) := by decide +kernel
theorem dX9_forgetKept_2 : decode cX9_forgetKept 2 = .ok (.putfield 28, 3) := by decide +kernel
theorem dX9_forgetKept_5 : decode cX9_forgetKept 5 = .ok (.aload_n 0, 1) := by decide +kernel
theorem dX9_forgetKept_6 : decode cX9_forgetKept 6 = .ok (.iconst 0, 1) := by decide +kernel
theorem dX9_forgetKept_7 : decode cX9_forgetKept 7 = .ok (.putfield 31, 3) := by decide +kernel
theorem dX9_forgetKept_10 : decode cX9_forgetKept 10 = .ok (.return_, 1) := by decide +kernel
theorem dX9_begin_0 : decode cX9_begin 0 = .ok (.aload_n 0, 1) := by decide +kernel
theorem dX9_begin_1 : decode cX9_begin 1 = .ok (.iconst 0, 1) := by decide +kernel
theorem dX9_begin_2 : decode cX9_begin 2 = .ok (.putfield 9, 3) := by decide +kernel
theorem dX9_begin_5 : decode cX9_begin 5 = .ok (.aload_n 1, 1) := by decide +kernel
theorem dX9_begin_6 : decode cX9_begin 6 = .ok (.getfield 34, 3) := by decide +kernel
theorem dX9_begin_9 : decode cX9_begin 9 = .ok (.iconst 0, 1) := by decide +kernel
theorem dX9_begin_10 : decode cX9_begin 10 = .ok (.aload_n 0, 1) := by decide +kernel
theorem dX9_begin_11 : decode cX9_begin 11 = .ok (.getfield 15, 3) := by decide +kernel
theorem dX9_begin_14 : decode cX9_begin 14 = .ok (.iconst 0, 1) := by decide +kernel
theorem dX9_begin_15 : decode cX9_begin 15 = .ok (.bipush 25, 2) := by decide +kernel
theorem dX9_begin_17 : decode cX9_begin 17 = .ok (.invokestatic 39, 3) := by decide +kernel
theorem dX9_begin_20 : decode cX9_begin 20 = .ok (.iconst 0, 1) := by decide +kernel
theorem dX9_begin_21 : decode cX9_begin 21 = .ok (.istore_n 2, 1) := by decide +kernel
theorem dX9_begin_22 : decode cX9_begin 22 = .ok (.iload_n 2, 1) := by decide +kernel
theorem dX9_begin_23 : decode cX9_begin 23 = .ok (.bipush 6, 2) := by decide +kernel
theorem dX9_begin_25 : decode cX9_begin 25 = .ok (.if_icmp .ge 23, 3) := by decide +kernel
theorem dX9_begin_28 : decode cX9_begin 28 = .ok (.aload_n 0, 1) := by decide +kernel
theorem dX9_begin_29 : decode cX9_begin 29 = .ok (.getfield 19, 3) := by decide +kernel
theorem dX9_begin_32 : decode cX9_begin 32 = .ok (.iload_n 2, 1) := by decide +kernel
theorem dX9_begin_33 : decode cX9_begin 33 = .ok (.iconst 0, 1) := by decide +kernel
theorem dX9_begin_34 : decode cX9_begin 34 = .ok (.iastore, 1) := by decide +kernel
theorem dX9_begin_35 : decode cX9_begin 35 = .ok (.aload_n 0, 1) := by decide +kernel
theorem dX9_begin_36 : decode cX9_begin 36 = .ok (.getfield 22, 3) := by decide +kernel
theorem dX9_begin_39 : decode cX9_begin 39 = .ok (.iload_n 2, 1) := by decide +kernel
theorem dX9_begin_40 : decode cX9_begin 40 = .ok (.iconst 0, 1) := by decide +kernel
theorem dX9_begin_41 : decode cX9_begin 41 = .ok (.iastore, 1) := by decide +kernel
theorem dX9_begin_42 : decode cX9_begin 42 = .ok (.iinc 2 1, 3) := by decide +kernel
theorem dX9_begin_45 : decode cX9_begin 45 = .ok (.goto (-23), 3) := by decide +kernel
theorem dX9_begin_48 : decode cX9_begin 48 = .ok (.aload_n 0, 1) := by decide +kernel
theorem dX9_begin_49 : decode cX9_begin 49 = .ok (.invokevirtual 45, 3) := by decide +kernel
theorem dX9_begin_52 : decode cX9_begin 52 = .ok (.return_, 1) := by decide +kernel
theorem dX9_holds_0 : decode cX9_holds 0 = .ok (.iload_n 1, 1) := by decide +kernel
theorem dX9_holds_1 : decode cX9_holds 1 = .ok (.aload_n 0, 1) := by decide +kernel
theorem dX9_holds_2 : decode cX9_holds 2 = .ok (.invokevirtual 71, 3) := by decide +kernel
theorem dX9_holds_5 : decode cX9_holds 5 = .ok (.iconst (-1), 1) := by decide +kernel
theorem dX9_holds_6 : decode cX9_holds 6 = .ok (.ixor, 1) := by decide +kernel
theorem dX9_holds_7 : decode cX9_holds 7 = .ok (.iand, 1) := by decide +kernel
theorem dX9_holds_8 : decode cX9_holds 8 = .ok (.ifCond .ne 7, 3) := by decide +kernel
theorem dX9_holds_11 : decode cX9_holds 11 = .ok (.iconst 1, 1) := by decide +kernel
theorem dX9_holds_12 : decode cX9_holds 12 = .ok (.goto 4, 3) := by decide +kernel
theorem dX9_holds_15 : decode cX9_holds 15 = .ok (.iconst 0, 1) := by decide +kernel
theorem dX9_holds_16 : decode cX9_holds 16 = .ok (.ireturn, 1) := by decide +kernel
theorem dX9_hungry_0 : decode cX9_hungry 0 = .ok (.iconst 0, 1) := by decide +kernel
theorem dX9_hungry_1 : decode cX9_hungry 1 = .ok (.istore_n 1, 1) := by decide +kernel
theorem dX9_hungry_2 : decode cX9_hungry 2 = .ok (.aload_n 0, 1) := by decide +kernel
theorem dX9_hungry_3 : decode cX9_hungry 3 = .ok (.getfield 19, 3) := by decide +kernel
theorem dX9_hungry_6 : decode cX9_hungry 6 = .ok (.astore_n 2, 1) := by decide +kernel
theorem dX9_hungry_7 : decode cX9_hungry 7 = .ok (.aload_n 2, 1) := by decide +kernel
theorem dX9_hungry_8 : decode cX9_hungry 8 = .ok (.arraylength, 1) := by decide +kernel
theorem dX9_hungry_9 : decode cX9_hungry 9 = .ok (.istore_n 3, 1) := by decide +kernel
theorem dX9_hungry_10 : decode cX9_hungry 10 = .ok (.iconst 0, 1) := by decide +kernel
theorem dX9_hungry_11 : decode cX9_hungry 11 = .ok (.istore 4, 2) := by decide +kernel
theorem dX9_hungry_13 : decode cX9_hungry 13 = .ok (.iload 4, 2) := by decide +kernel
theorem dX9_hungry_15 : decode cX9_hungry 15 = .ok (.iload_n 3, 1) := by decide +kernel
theorem dX9_hungry_16 : decode cX9_hungry 16 = .ok (.if_icmp .ge 28, 3) := by decide +kernel
theorem dX9_hungry_19 : decode cX9_hungry 19 = .ok (.aload_n 2, 1) := by decide +kernel
theorem dX9_hungry_20 : decode cX9_hungry 20 = .ok (.iload 4, 2) := by decide +kernel
theorem dX9_hungry_22 : decode cX9_hungry 22 = .ok (.iaload, 1) := by decide +kernel
theorem dX9_hungry_23 : decode cX9_hungry 23 = .ok (.istore 5, 2) := by decide +kernel
theorem dX9_hungry_25 : decode cX9_hungry 25 = .ok (.iload_n 1, 1) := by decide +kernel
theorem dX9_hungry_26 : decode cX9_hungry 26 = .ok (.iload 5, 2) := by decide +kernel
theorem dX9_hungry_28 : decode cX9_hungry 28 = .ok (.ifCond .le 7, 3) := by decide +kernel
theorem dX9_hungry_31 : decode cX9_hungry 31 = .ok (.iconst 1, 1) := by decide +kernel
theorem dX9_hungry_32 : decode cX9_hungry 32 = .ok (.goto 4, 3) := by decide +kernel
theorem dX9_hungry_35 : decode cX9_hungry 35 = .ok (.iconst 0, 1) := by decide +kernel
theorem dX9_hungry_36 : decode cX9_hungry 36 = .ok (.iadd, 1) := by decide +kernel
theorem dX9_hungry_37 : decode cX9_hungry 37 = .ok (.istore_n 1, 1) := by decide +kernel
theorem dX9_hungry_38 : decode cX9_hungry 38 = .ok (.iinc 4 1, 3) := by decide +kernel
theorem dX9_hungry_41 : decode cX9_hungry 41 = .ok (.goto (-28), 3) := by decide +kernel
theorem dX9_hungry_44 : decode cX9_hungry 44 = .ok (.iload_n 1, 1) := by decide +kernel
theorem dX9_hungry_45 : decode cX9_hungry 45 = .ok (.ireturn, 1) := by decide +kernel
theorem dX9_keptAt_0 : decode cX9_keptAt 0 = .ok (.aload_n 0, 1) := by decide +kernel
theorem dX9_keptAt_1 : decode cX9_keptAt 1 = .ok (.getfield 25, 3) := by decide +kernel
theorem dX9_keptAt_4 : decode cX9_keptAt 4 = .ok (.aload_n 0, 1) := by decide +kernel
theorem dX9_keptAt_5 : decode cX9_keptAt 5 = .ok (.getfield 28, 3) := by decide +kernel
theorem dX9_keptAt_8 : decode cX9_keptAt 8 = .ok (.iload_n 1, 1) := by decide +kernel
theorem dX9_keptAt_9 : decode cX9_keptAt 9 = .ok (.iadd, 1) := by decide +kernel
theorem dX9_keptAt_10 : decode cX9_keptAt 10 = .ok (.bipush 40, 2) := by decide +kernel
theorem dX9_keptAt_12 : decode cX9_keptAt 12 = .ok (.irem, 1) := by decide +kernel
theorem dX9_keptAt_13 : decode cX9_keptAt 13 = .ok (.iconst 3, 1) := by decide +kernel
theorem dX9_keptAt_14 : decode cX9_keptAt 14 = .ok (.imul, 1) := by decide +kernel
theorem dX9_keptAt_15 : decode cX9_keptAt 15 = .ok (.iload_n 2, 1) := by decide +kernel
theorem dX9_keptAt_16 : decode cX9_keptAt 16 = .ok (.iadd, 1) := by decide +kernel
theorem dX9_keptAt_17 : decode cX9_keptAt 17 = .ok (.iaload, 1) := by decide +kernel
theorem dX9_keptAt_18 : decode cX9_keptAt 18 = .ok (.ireturn, 1) := by decide +kernel
theorem dX10_two_0 : decode cX10_two 0 = .ok (.iload_n 1, 1) := by decide +kernel
theorem dX10_two_1 : decode cX10_two 1 = .ok (.ifCond .lt 35, 3) := by decide +kernel
theorem dX10_two_4 : decode cX10_two 4 = .ok (.iload_n 1, 1) := by decide +kernel
theorem dX10_two_5 : decode cX10_two 5 = .ok (.iconst 1, 1) := by decide +kernel
theorem dX10_two_6 : decode cX10_two 6 = .ok (.iadd, 1) := by decide +kernel
theorem dX10_two_7 : decode cX10_two 7 = .ok (.aload_n 0, 1) := by decide +kernel
theorem dX10_two_8 : decode cX10_two 8 = .ok (.getfield 15, 3) := by decide +kernel
theorem dX10_two_11 : decode cX10_two 11 = .ok (.if_icmp .ge 25, 3) := by decide +kernel
theorem dX10_two_14 : decode cX10_two 14 = .ok (.aload_n 0, 1) := by decide +kernel
theorem dX10_two_15 : decode cX10_two 15 = .ok (.getfield 9, 3) := by decide +kernel
theorem dX10_two_18 : decode cX10_two 18 = .ok (.iload_n 1, 1) := by decide +kernel
theorem dX10_two_19 : decode cX10_two 19 = .ok (.iaload, 1) := by decide +kernel
theorem dX10_two_20 : decode cX10_two 20 = .ok (.sipush 256, 3) := by decide +kernel
theorem dX10_two_23 : decode cX10_two 23 = .ok (.imul, 1) := by decide +kernel
theorem dX10_two_24 : decode cX10_two 24 = .ok (.aload_n 0, 1) := by decide +kernel
theorem dX10_two_25 : decode cX10_two 25 = .ok (.getfield 9, 3) := by decide +kernel
theorem dX10_two_28 : decode cX10_two 28 = .ok (.iload_n 1, 1) := by decide +kernel
theorem dX10_two_29 : decode cX10_two 29 = .ok (.iconst 1, 1) := by decide +kernel
theorem dX10_two_30 : decode cX10_two 30 = .ok (.iadd, 1) := by decide +kernel
theorem dX10_two_31 : decode cX10_two 31 = .ok (.iaload, 1) := by decide +kernel
theorem dX10_two_32 : decode cX10_two 32 = .ok (.iadd, 1) := by decide +kernel
theorem dX10_two_33 : decode cX10_two 33 = .ok (.goto 4, 3) := by decide +kernel
theorem dX10_two_36 : decode cX10_two 36 = .ok (.iconst 0, 1) := by decide +kernel
theorem dX10_two_37 : decode cX10_two 37 = .ok (.ireturn, 1) := by decide +kernel
theorem dX9_read_0 : decode cX9_read 0 = .ok (.aload_n 0, 1) := by decide +kernel
theorem dX9_read_1 : decode cX9_read 1 = .ok (.aload_n 1, 1) := by decide +kernel
theorem dX9_read_2 : decode cX9_read 2 = .ok (.iconst 0, 1) := by decide +kernel
theorem dX9_read_3 : decode cX9_read 3 = .ok (.invokevirtual 52, 3) := by decide +kernel
theorem dX9_read_6 : decode cX9_read 6 = .ok (.putfield 9, 3) := by decide +kernel
theorem dX9_read_9 : decode cX9_read 9 = .ok (.iconst 1, 1) := by decide +kernel
theorem dX9_read_10 : decode cX9_read 10 = .ok (.istore_n 3, 1) := by decide +kernel
theorem dX9_read_11 : decode cX9_read 11 = .ok (.iload_n 3, 1) := by decide +kernel
theorem dX9_read_12 : decode cX9_read 12 = .ok (.aload_n 2, 1) := by decide +kernel
theorem dX9_read_13 : decode cX9_read 13 = .ok (.getfield 58, 3) := by decide +kernel
theorem dX9_read_16 : decode cX9_read 16 = .ok (.if_icmp .gt 22, 3) := by decide +kernel
theorem dX9_read_19 : decode cX9_read 19 = .ok (.aload_n 0, 1) := by decide +kernel
theorem dX9_read_20 : decode cX9_read 20 = .ok (.getfield 15, 3) := by decide +kernel
theorem dX9_read_23 : decode cX9_read 23 = .ok (.iload_n 3, 1) := by decide +kernel
theorem dX9_read_24 : decode cX9_read 24 = .ok (.aload_n 1, 1) := by decide +kernel
theorem dX9_read_25 : decode cX9_read 25 = .ok (.iconst 2, 1) := by decide +kernel
theorem dX9_read_26 : decode cX9_read 26 = .ok (.iload_n 3, 1) := by decide +kernel
theorem dX9_read_27 : decode cX9_read 27 = .ok (.imul, 1) := by decide +kernel
theorem dX9_read_28 : decode cX9_read 28 = .ok (.invokevirtual 52, 3) := by decide +kernel
theorem dX9_read_31 : decode cX9_read 31 = .ok (.iastore, 1) := by decide +kernel
theorem dX9_read_32 : decode cX9_read 32 = .ok (.iinc 3 1, 3) := by decide +kernel
theorem dX9_read_35 : decode cX9_read 35 = .ok (.goto (-24), 3) := by decide +kernel
theorem dX9_read_38 : decode cX9_read 38 = .ok (.iconst 0, 1) := by decide +kernel
theorem dX9_read_39 : decode cX9_read 39 = .ok (.istore_n 3, 1) := by decide +kernel
theorem dX9_read_40 : decode cX9_read 40 = .ok (.iload_n 3, 1) := by decide +kernel
theorem dX9_read_41 : decode cX9_read 41 = .ok (.aload_n 2, 1) := by decide +kernel
theorem dX9_read_42 : decode cX9_read 42 = .ok (.getfield 61, 3) := by decide +kernel
theorem dX9_read_45 : decode cX9_read 45 = .ok (.if_icmp .ge 50, 3) := by decide +kernel
theorem dX9_read_48 : decode cX9_read 48 = .ok (.iconst 2, 1) := by decide +kernel
theorem dX9_read_49 : decode cX9_read 49 = .ok (.iconst 2, 1) := by decide +kernel
theorem dX9_read_50 : decode cX9_read 50 = .ok (.aload_n 2, 1) := by decide +kernel
theorem dX9_read_51 : decode cX9_read 51 = .ok (.getfield 58, 3) := by decide +kernel
theorem dX9_read_54 : decode cX9_read 54 = .ok (.imul, 1) := by decide +kernel
theorem dX9_read_55 : decode cX9_read 55 = .ok (.iadd, 1) := by decide +kernel
theorem dX9_read_56 : decode cX9_read 56 = .ok (.iconst 3, 1) := by decide +kernel
theorem dX9_read_57 : decode cX9_read 57 = .ok (.iload_n 3, 1) := by decide +kernel
theorem dX9_read_58 : decode cX9_read 58 = .ok (.imul, 1) := by decide +kernel
theorem dX9_read_59 : decode cX9_read 59 = .ok (.iadd, 1) := by decide +kernel
theorem dX9_read_60 : decode cX9_read 60 = .ok (.istore 4, 2) := by decide +kernel
theorem dX9_read_62 : decode cX9_read 62 = .ok (.aload_n 0, 1) := by decide +kernel
theorem dX9_read_63 : decode cX9_read 63 = .ok (.getfield 19, 3) := by decide +kernel
theorem dX9_read_66 : decode cX9_read 66 = .ok (.iload_n 3, 1) := by decide +kernel
theorem dX9_read_67 : decode cX9_read 67 = .ok (.aload_n 1, 1) := by decide +kernel
theorem dX9_read_68 : decode cX9_read 68 = .ok (.getfield 64, 3) := by decide +kernel
theorem dX9_read_71 : decode cX9_read 71 = .ok (.iload 4, 2) := by decide +kernel
theorem dX9_read_73 : decode cX9_read 73 = .ok (.iaload, 1) := by decide +kernel
theorem dX9_read_74 : decode cX9_read 74 = .ok (.iastore, 1) := by decide +kernel
theorem dX9_read_75 : decode cX9_read 75 = .ok (.aload_n 0, 1) := by decide +kernel
theorem dX9_read_76 : decode cX9_read 76 = .ok (.getfield 22, 3) := by decide +kernel
theorem dX9_read_79 : decode cX9_read 79 = .ok (.iload_n 3, 1) := by decide +kernel
theorem dX9_read_80 : decode cX9_read 80 = .ok (.aload_n 1, 1) := by decide +kernel
theorem dX9_read_81 : decode cX9_read 81 = .ok (.iload 4, 2) := by decide +kernel
theorem dX9_read_83 : decode cX9_read 83 = .ok (.iconst 1, 1) := by decide +kernel
theorem dX9_read_84 : decode cX9_read 84 = .ok (.iadd, 1) := by decide +kernel
theorem dX9_read_85 : decode cX9_read 85 = .ok (.invokevirtual 52, 3) := by decide +kernel
theorem dX9_read_88 : decode cX9_read 88 = .ok (.iastore, 1) := by decide +kernel
theorem dX9_read_89 : decode cX9_read 89 = .ok (.iinc 3 1, 3) := by decide +kernel
theorem dX9_read_92 : decode cX9_read 92 = .ok (.goto (-52), 3) := by decide +kernel
theorem dX9_read_95 : decode cX9_read 95 = .ok (.aload_n 0, 1) := by decide +kernel
theorem dX9_read_96 : decode cX9_read 96 = .ok (.invokevirtual 45, 3) := by decide +kernel
theorem dX9_read_99 : decode cX9_read 99 = .ok (.return_, 1) := by decide +kernel
theorem dX10_add_0 : decode cX10_add 0 = .ok (.aload_n 0, 1) := by decide +kernel
theorem dX10_add_1 : decode cX10_add 1 = .ok (.getfield 15, 3) := by decide +kernel
theorem dX10_add_4 : decode cX10_add 4 = .ok (.iconst 4, 1) := by decide +kernel
theorem dX10_add_5 : decode cX10_add 5 = .ok (.iadd, 1) := by decide +kernel
theorem dX10_add_6 : decode cX10_add 6 = .ok (.aload_n 0, 1) := by decide +kernel
theorem dX10_add_7 : decode cX10_add 7 = .ok (.getfield 9, 3) := by decide +kernel
theorem dX10_add_10 : decode cX10_add 10 = .ok (.arraylength, 1) := by decide +kernel
theorem dX10_add_11 : decode cX10_add 11 = .ok (.if_icmp .le 4, 3) := by decide +kernel
theorem dX10_add_14 : decode cX10_add 14 = .ok (.return_, 1) := by decide +kernel
theorem dX10_add_15 : decode cX10_add 15 = .ok (.bipush 24, 2) := by decide +kernel
theorem dX10_add_17 : decode cX10_add 17 = .ok (.istore_n 2, 1) := by decide +kernel
theorem dX10_add_18 : decode cX10_add 18 = .ok (.iload_n 2, 1) := by decide +kernel
theorem dX10_add_19 : decode cX10_add 19 = .ok (.ifCond .lt 35, 3) := by decide +kernel
theorem dX10_add_22 : decode cX10_add 22 = .ok (.aload_n 0, 1) := by decide +kernel
theorem dX10_add_23 : decode cX10_add 23 = .ok (.getfield 9, 3) := by decide +kernel
theorem dX10_add_26 : decode cX10_add 26 = .ok (.aload_n 0, 1) := by decide +kernel
theorem dX10_add_27 : decode cX10_add 27 = .ok (.getfield 15, 3) := by decide +kernel
theorem dX10_add_30 : decode cX10_add 30 = .ok (.iload_n 1, 1) := by decide +kernel
theorem dX10_add_31 : decode cX10_add 31 = .ok (.iload_n 2, 1) := by decide +kernel
theorem dX10_add_32 : decode cX10_add 32 = .ok (.ishr, 1) := by decide +kernel
theorem dX10_add_33 : decode cX10_add 33 = .ok (.sipush 255, 3) := by decide +kernel
theorem dX10_add_36 : decode cX10_add 36 = .ok (.iand, 1) := by decide +kernel
theorem dX10_add_37 : decode cX10_add 37 = .ok (.iastore, 1) := by decide +kernel
theorem dX10_add_38 : decode cX10_add 38 = .ok (.aload_n 0, 1) := by decide +kernel
theorem dX10_add_39 : decode cX10_add 39 = .ok (.dup, 1) := by decide +kernel
theorem dX10_add_40 : decode cX10_add 40 = .ok (.getfield 15, 3) := by decide +kernel
theorem dX10_add_43 : decode cX10_add 43 = .ok (.iconst 1, 1) := by decide +kernel
theorem dX10_add_44 : decode cX10_add 44 = .ok (.iadd, 1) := by decide +kernel
theorem dX10_add_45 : decode cX10_add 45 = .ok (.putfield 15, 3) := by decide +kernel
theorem dX10_add_48 : decode cX10_add 48 = .ok (.iinc 2 (-8), 3) := by decide +kernel
theorem dX10_add_51 : decode cX10_add 51 = .ok (.goto (-33), 3) := by decide +kernel
theorem dX10_add_54 : decode cX10_add 54 = .ok (.return_, 1) := by decide +kernel
theorem dX10_checkOf_0 : decode cX10_checkOf 0 = .ok (.sipush 229, 3) := by decide +kernel
theorem dX10_checkOf_3 : decode cX10_checkOf 3 = .ok (.istore_n 2, 1) := by decide +kernel
theorem dX10_checkOf_4 : decode cX10_checkOf 4 = .ok (.iconst 0, 1) := by decide +kernel
theorem dX10_checkOf_5 : decode cX10_checkOf 5 = .ok (.istore_n 3, 1) := by decide +kernel
theorem dX10_checkOf_6 : decode cX10_checkOf 6 = .ok (.iload_n 3, 1) := by decide +kernel
theorem dX10_checkOf_7 : decode cX10_checkOf 7 = .ok (.iload_n 1, 1) := by decide +kernel
theorem dX10_checkOf_8 : decode cX10_checkOf 8 = .ok (.if_icmp .ge 27, 3) := by decide +kernel
theorem dX10_checkOf_11 : decode cX10_checkOf 11 = .ok (.iload_n 3, 1) := by decide +kernel
theorem dX10_checkOf_12 : decode cX10_checkOf 12 = .ok (.aload_n 0, 1) := by decide +kernel
theorem dX10_checkOf_13 : decode cX10_checkOf 13 = .ok (.arraylength, 1) := by decide +kernel
theorem dX10_checkOf_14 : decode cX10_checkOf 14 = .ok (.if_icmp .ge 21, 3) := by decide +kernel
theorem dX10_checkOf_17 : decode cX10_checkOf 17 = .ok (.iconst 3, 1) := by decide +kernel
theorem dX10_checkOf_18 : decode cX10_checkOf 18 = .ok (.iload_n 2, 1) := by decide +kernel
theorem dX10_checkOf_19 : decode cX10_checkOf 19 = .ok (.imul, 1) := by decide +kernel
theorem dX10_checkOf_20 : decode cX10_checkOf 20 = .ok (.aload_n 0, 1) := by decide +kernel
theorem dX10_checkOf_21 : decode cX10_checkOf 21 = .ok (.iload_n 3, 1) := by decide +kernel
theorem dX10_checkOf_22 : decode cX10_checkOf 22 = .ok (.iaload, 1) := by decide +kernel
theorem dX10_checkOf_23 : decode cX10_checkOf 23 = .ok (.iadd, 1) := by decide +kernel
theorem dX10_checkOf_24 : decode cX10_checkOf 24 = .ok (.sipush 251, 3) := by decide +kernel
theorem dX10_checkOf_27 : decode cX10_checkOf 27 = .ok (.irem, 1) := by decide +kernel
theorem dX10_checkOf_28 : decode cX10_checkOf 28 = .ok (.istore_n 2, 1) := by decide +kernel
theorem dX10_checkOf_29 : decode cX10_checkOf 29 = .ok (.iinc 3 1, 3) := by decide +kernel
theorem dX10_checkOf_32 : decode cX10_checkOf 32 = .ok (.goto (-26), 3) := by decide +kernel
theorem dX10_checkOf_35 : decode cX10_checkOf 35 = .ok (.iload_n 2, 1) := by decide +kernel
theorem dX10_checkOf_36 : decode cX10_checkOf 36 = .ok (.ireturn, 1) := by decide +kernel
theorem dX10_isImage_0 : decode cX10_isImage 0 = .ok (.iconst 2, 1) := by decide +kernel
theorem dX10_isImage_1 : decode cX10_isImage 1 = .ok (.iconst 2, 1) := by decide +kernel
theorem dX10_isImage_2 : decode cX10_isImage 2 = .ok (.iload_n 1, 1) := by decide +kernel
theorem dX10_isImage_3 : decode cX10_isImage 3 = .ok (.imul, 1) := by decide +kernel
theorem dX10_isImage_4 : decode cX10_isImage 4 = .ok (.iadd, 1) := by decide +kernel
theorem dX10_isImage_5 : decode cX10_isImage 5 = .ok (.iconst 3, 1) := by decide +kernel
theorem dX10_isImage_6 : decode cX10_isImage 6 = .ok (.iload_n 2, 1) := by decide +kernel
theorem dX10_isImage_7 : decode cX10_isImage 7 = .ok (.imul, 1) := by decide +kernel
theorem dX10_isImage_8 : decode cX10_isImage 8 = .ok (.iadd, 1) := by decide +kernel
theorem dX10_isImage_9 : decode cX10_isImage 9 = .ok (.istore_n 3, 1) := by decide +kernel
theorem dX10_isImage_10 : decode cX10_isImage 10 = .ok (.aload_n 0, 1) := by decide +kernel
theorem dX10_isImage_11 : decode cX10_isImage 11 = .ok (.getfield 15, 3) := by decide +kernel
theorem dX10_isImage_14 : decode cX10_isImage 14 = .ok (.iload_n 3, 1) := by decide +kernel
theorem dX10_isImage_15 : decode cX10_isImage 15 = .ok (.iconst 1, 1) := by decide +kernel
theorem dX10_isImage_16 : decode cX10_isImage 16 = .ok (.iadd, 1) := by decide +kernel
theorem dX10_isImage_17 : decode cX10_isImage 17 = .ok (.if_icmp .ne 31, 3) := by decide +kernel
theorem dX10_isImage_20 : decode cX10_isImage 20 = .ok (.aload_n 0, 1) := by decide +kernel
theorem dX10_isImage_21 : decode cX10_isImage 21 = .ok (.getfield 9, 3) := by decide +kernel
