theorem dX12_keeps_49 : decode cX12_keeps 49 = .ok (.aload_n 0, 1) := by decide +kernel
theorem dX12_keeps_50 : decode cX12_keeps 50 = .ok (.getfield 390, 3) := by decide +kernel
theorem dX12_keeps_53 : decode cX12_keeps 53 = .ok (.bipush 20, 2) := by decide +kernel
theorem dX12_keeps_55 : decode cX12_keeps 55 = .ok (.if_icmp .ge 13, 3) := by decide +kernel
theorem dX12_keeps_58 : decode cX12_keeps 58 = .ok (.aload_n 0, 1) := by decide +kernel
theorem dX12_keeps_59 : decode cX12_keeps 59 = .ok (.dup, 1) := by decide +kernel
theorem dX12_keeps_60 : decode cX12_keeps 60 = .ok (.getfield 390, 3) := by decide +kernel
theorem dX12_keeps_63 : decode cX12_keeps 63 = .ok (.iconst 1, 1) := by decide +kernel
theorem dX12_keeps_64 : decode cX12_keeps 64 = .ok (.iadd, 1) := by decide +kernel
theorem dX12_keeps_65 : decode cX12_keeps 65 = .ok (.putfield 390, 3) := by decide +kernel
theorem dX12_keeps_68 : decode cX12_keeps 68 = .ok (.return_, 1) := by decide +kernel
theorem dX12_bake_0 : decode cX12_bake 0 = .ok (.aload_n 0, 1) := by decide +kernel
theorem dX12_bake_1 : decode cX12_bake 1 = .ok (.getfield 383, 3) := by decide +kernel
theorem dX12_bake_4 : decode cX12_bake 4 = .ok (.ifCond .eq 29, 3) := by decide +kernel
theorem dX12_bake_7 : decode cX12_bake 7 = .ok (.iload_n 1, 1) := by decide +kernel
theorem dX12_bake_8 : decode cX12_bake 8 = .ok (.i2l, 1) := by decide +kernel
theorem dX12_bake_9 : decode cX12_bake 9 = .ok (.lconst 1, 1) := by decide +kernel
theorem dX12_bake_10 : decode cX12_bake 10 = .ok (.ldc2_w 516, 3) := by decide +kernel
theorem dX12_bake_13 : decode cX12_bake 13 = .ok (.invokestatic 300, 3) := by decide +kernel
theorem dX12_bake_16 : decode cX12_bake 16 = .ok (.ifCond .eq 17, 3) := by decide +kernel
theorem dX12_bake_19 : decode cX12_bake 19 = .ok (.aload_n 0, 1) := by decide +kernel
theorem dX12_bake_20 : decode cX12_bake 20 = .ok (.getfield 127, 3) := by decide +kernel
theorem dX12_bake_23 : decode cX12_bake 23 = .ok (.iconst 1, 1) := by decide +kernel
theorem dX12_bake_24 : decode cX12_bake 24 = .ok (.iaload, 1) := by decide +kernel
theorem dX12_bake_25 : decode cX12_bake 25 = .ok (.iload_n 1, 1) := by decide +kernel
theorem dX12_bake_26 : decode cX12_bake 26 = .ok (.iadd, 1) := by decide +kernel
theorem dX12_bake_27 : decode cX12_bake 27 = .ok (.sipush 999, 3) := by decide +kernel
theorem dX12_bake_30 : decode cX12_bake 30 = .ok (.if_icmp .le 9, 3) := by decide +kernel
theorem dX12_bake_33 : decode cX12_bake 33 = .ok (.aload_n 0, 1) := by decide +kernel
theorem dX12_bake_34 : decode cX12_bake 34 = .ok (.iconst 2, 1) := by decide +kernel
theorem dX12_bake_35 : decode cX12_bake 35 = .ok (.invokevirtual 376, 3) := by decide +kernel
theorem dX12_bake_38 : decode cX12_bake 38 = .ok (.ireturn, 1) := by decide +kernel
theorem dX12_bake_39 : decode cX12_bake 39 = .ok (.aload_n 0, 1) := by decide +kernel
theorem dX12_bake_40 : decode cX12_bake 40 = .ok (.invokevirtual 593, 3) := by decide +kernel
theorem dX12_bake_43 : decode cX12_bake 43 = .ok (.aload_n 0, 1) := by decide +kernel
theorem dX12_bake_44 : decode cX12_bake 44 = .ok (.getfield 127, 3) := by decide +kernel
theorem dX12_bake_47 : decode cX12_bake 47 = .ok (.iconst 1, 1) := by decide +kernel
theorem dX12_bake_48 : decode cX12_bake 48 = .ok (.dup2, 1) := by decide +kernel
theorem dX12_bake_49 : decode cX12_bake 49 = .ok (.iaload, 1) := by decide +kernel
theorem dX12_bake_50 : decode cX12_bake 50 = .ok (.iload_n 1, 1) := by decide +kernel
theorem dX12_bake_51 : decode cX12_bake 51 = .ok (.iadd, 1) := by decide +kernel
theorem dX12_bake_52 : decode cX12_bake 52 = .ok (.iastore, 1) := by decide +kernel
theorem dX12_bake_53 : decode cX12_bake 53 = .ok (.aload_n 0, 1) := by decide +kernel
theorem dX12_bake_54 : decode cX12_bake 54 = .ok (.getfield 127, 3) := by decide +kernel
theorem dX12_bake_57 : decode cX12_bake 57 = .ok (.iconst 1, 1) := by decide +kernel
theorem dX12_bake_58 : decode cX12_bake 58 = .ok (.iaload, 1) := by decide +kernel
theorem dX12_bake_59 : decode cX12_bake 59 = .ok (.ireturn, 1) := by decide +kernel
theorem dX12_isAhead_0 : decode cX12_isAhead 0 = .ok (.aload_n 0, 1) := by decide +kernel
theorem dX12_isAhead_1 : decode cX12_isAhead 1 = .ok (.getfield 383, 3) := by decide +kernel
theorem dX12_isAhead_4 : decode cX12_isAhead 4 = .ok (.ifCond .eq 33, 3) := by decide +kernel
theorem dX12_isAhead_7 : decode cX12_isAhead 7 = .ok (.iload_n 1, 1) := by decide +kernel
theorem dX12_isAhead_8 : decode cX12_isAhead 8 = .ok (.i2l, 1) := by decide +kernel
theorem dX12_isAhead_9 : decode cX12_isAhead 9 = .ok (.iload_n 2, 1) := by decide +kernel
theorem dX12_isAhead_10 : decode cX12_isAhead 10 = .ok (.i2l, 1) := by decide +kernel
theorem dX12_isAhead_11 : decode cX12_isAhead 11 = .ok (.iload_n 3, 1) := by decide +kernel
theorem dX12_isAhead_12 : decode cX12_isAhead 12 = .ok (.i2l, 1) := by decide +kernel
theorem dX12_isAhead_13 : decode cX12_isAhead 13 = .ok (.invokestatic 300, 3) := by decide +kernel
theorem dX12_isAhead_16 : decode cX12_isAhead 16 = .ok (.ifCond .eq 21, 3) := by decide +kernel
theorem dX12_isAhead_19 : decode cX12_isAhead 19 = .ok (.aload_n 0, 1) := by decide +kernel
theorem dX12_isAhead_20 : decode cX12_isAhead 20 = .ok (.getfield 127, 3) := by decide +kernel
theorem dX12_isAhead_23 : decode cX12_isAhead 23 = .ok (.iconst 0, 1) := by decide +kernel
theorem dX12_isAhead_24 : decode cX12_isAhead 24 = .ok (.iaload, 1) := by decide +kernel
theorem dX12_isAhead_25 : decode cX12_isAhead 25 = .ok (.iload_n 1, 1) := by decide +kernel
theorem dX12_isAhead_26 : decode cX12_isAhead 26 = .ok (.iadd, 1) := by decide +kernel
theorem dX12_isAhead_27 : decode cX12_isAhead 27 = .ok (.sipush 999, 3) := by decide +kernel
theorem dX12_isAhead_30 : decode cX12_isAhead 30 = .ok (.if_icmp .gt 7, 3) := by decide +kernel
theorem dX12_isAhead_33 : decode cX12_isAhead 33 = .ok (.iconst 1, 1) := by decide +kernel
theorem dX12_isAhead_34 : decode cX12_isAhead 34 = .ok (.goto 4, 3) := by decide +kernel
theorem dX12_isAhead_37 : decode cX12_isAhead 37 = .ok (.iconst 0, 1) := by decide +kernel
theorem dX12_isAhead_38 : decode cX12_isAhead 38 = .ok (.ireturn, 1) := by decide +kernel
theorem dX12_drawOf_0 : decode cX12_drawOf 0 = .ok (.aload_n 0, 1) := by decide +kernel
theorem dX12_drawOf_1 : decode cX12_drawOf 1 = .ok (.ldc2_w 602, 3) := by decide +kernel
theorem dX12_drawOf_4 : decode cX12_drawOf 4 = .ok (.aload_n 0, 1) := by decide +kernel
theorem dX12_drawOf_5 : decode cX12_drawOf 5 = .ok (.getfield 166, 3) := by decide +kernel
theorem dX12_drawOf_8 : decode cX12_drawOf 8 = .ok (.lmul, 1) := by decide +kernel
theorem dX12_drawOf_9 : decode cX12_drawOf 9 = .ok (.ldc2_w 604, 3) := by decide +kernel
theorem dX12_drawOf_12 : decode cX12_drawOf 12 = .ok (.ladd, 1) := by decide +kernel
theorem dX12_drawOf_13 : decode cX12_drawOf 13 = .ok (.ldc2_w 606, 3) := by decide +kernel
theorem dX12_drawOf_16 : decode cX12_drawOf 16 = .ok (.lrem, 1) := by decide +kernel
theorem dX12_drawOf_17 : decode cX12_drawOf 17 = .ok (.putfield 166, 3) := by decide +kernel
theorem dX12_drawOf_20 : decode cX12_drawOf 20 = .ok (.aload_n 0, 1) := by decide +kernel
theorem dX12_drawOf_21 : decode cX12_drawOf 21 = .ok (.getfield 166, 3) := by decide +kernel
theorem dX12_drawOf_24 : decode cX12_drawOf 24 = .ok (.ldc2_w 608, 3) := by decide +kernel
theorem dX12_drawOf_27 : decode cX12_drawOf 27 = .ok (.ldiv, 1) := by decide +kernel
theorem dX12_drawOf_28 : decode cX12_drawOf 28 = .ok (.iload_n 1, 1) := by decide +kernel
theorem dX12_drawOf_29 : decode cX12_drawOf 29 = .ok (.i2l, 1) := by decide +kernel
theorem dX12_drawOf_30 : decode cX12_drawOf 30 = .ok (.lrem, 1) := by decide +kernel
theorem dX12_drawOf_31 : decode cX12_drawOf 31 = .ok (.l2i, 1) := by decide +kernel
theorem dX12_drawOf_32 : decode cX12_drawOf 32 = .ok (.ireturn, 1) := by decide +kernel
theorem dX12_isGone_0 : decode cX12_isGone 0 = .ok (.aload_n 0, 1) := by decide +kernel
theorem dX12_isGone_1 : decode cX12_isGone 1 = .ok (.getfield 127, 3) := by decide +kernel
theorem dX12_isGone_4 : decode cX12_isGone 4 = .ok (.iload_n 1, 1) := by decide +kernel
theorem dX12_isGone_5 : decode cX12_isGone 5 = .ok (.iaload, 1) := by decide +kernel
theorem dX12_isGone_6 : decode cX12_isGone 6 = .ok (.ifCond .ne 5, 3) := by decide +kernel
theorem dX12_isGone_9 : decode cX12_isGone 9 = .ok (.iconst 0, 1) := by decide +kernel
theorem dX12_isGone_10 : decode cX12_isGone 10 = .ok (.ireturn, 1) := by decide +kernel
theorem dX12_isGone_11 : decode cX12_isGone 11 = .ok (.aload_n 0, 1) := by decide +kernel
theorem dX12_isGone_12 : decode cX12_isGone 12 = .ok (.getfield 127, 3) := by decide +kernel
theorem dX12_isGone_15 : decode cX12_isGone 15 = .ok (.iload_n 1, 1) := by decide +kernel
theorem dX12_isGone_16 : decode cX12_isGone 16 = .ok (.dup2, 1) := by decide +kernel
theorem dX12_isGone_17 : decode cX12_isGone 17 = .ok (.iaload, 1) := by decide +kernel
theorem dX12_isGone_18 : decode cX12_isGone 18 = .ok (.iconst 1, 1) := by decide +kernel
theorem dX12_isGone_19 : decode cX12_isGone 19 = .ok (.isub, 1) := by decide +kernel
theorem dX12_isGone_20 : decode cX12_isGone 20 = .ok (.iastore, 1) := by decide +kernel
theorem dX12_isGone_21 : decode cX12_isGone 21 = .ok (.iconst 1, 1) := by decide +kernel
theorem dX12_isGone_22 : decode cX12_isGone 22 = .ok (.ireturn, 1) := by decide +kernel
theorem dX12_lessOf_0 : decode cX12_lessOf 0 = .ok (.iload_n 0, 1) := by decide +kernel
theorem dX12_lessOf_1 : decode cX12_lessOf 1 = .ok (.iload_n 1, 1) := by decide +kernel
theorem dX12_lessOf_2 : decode cX12_lessOf 2 = .ok (.if_icmp .ge 7, 3) := by decide +kernel
theorem dX12_lessOf_5 : decode cX12_lessOf 5 = .ok (.iload_n 0, 1) := by decide +kernel
theorem dX12_lessOf_6 : decode cX12_lessOf 6 = .ok (.goto 4, 3) := by decide +kernel
theorem dX12_lessOf_9 : decode cX12_lessOf 9 = .ok (.iload_n 1, 1) := by decide +kernel
theorem dX12_lessOf_10 : decode cX12_lessOf 10 = .ok (.ireturn, 1) := by decide +kernel
theorem dX12_isInStock_0 : decode cX12_isInStock 0 = .ok (.iconst 1, 1) := by decide +kernel
theorem dX12_isInStock_1 : decode cX12_isInStock 1 = .ok (.istore_n 2, 1) := by decide +kernel
theorem dX12_isInStock_2 : decode cX12_isInStock 2 = .ok (.iload_n 2, 1) := by decide +kernel
theorem dX12_isInStock_3 : decode cX12_isInStock 3 = .ok (.aload_n 0, 1) := by decide +kernel
theorem dX12_isInStock_4 : decode cX12_isInStock 4 = .ok (.invokevirtual 396, 3) := by decide +kernel
theorem dX12_isInStock_7 : decode cX12_isInStock 7 = .ok (.if_icmp .gt 28, 3) := by decide +kernel
theorem dX12_isInStock_10 : decode cX12_isInStock 10 = .ok (.iload_n 1, 1) := by decide +kernel
theorem dX12_isInStock_11 : decode cX12_isInStock 11 = .ok (.iload_n 2, 1) := by decide +kernel
theorem dX12_isInStock_12 : decode cX12_isInStock 12 = .ok (.invokestatic 433, 3) := by decide +kernel
theorem dX12_isInStock_15 : decode cX12_isInStock 15 = .ok (.ifCond .eq 14, 3) := by decide +kernel
theorem dX12_isInStock_18 : decode cX12_isInStock 18 = .ok (.aload_n 0, 1) := by decide +kernel
theorem dX12_isInStock_19 : decode cX12_isInStock 19 = .ok (.getfield 127, 3) := by decide +kernel
theorem dX12_isInStock_22 : decode cX12_isInStock 22 = .ok (.iload_n 2, 1) := by decide +kernel
theorem dX12_isInStock_23 : decode cX12_isInStock 23 = .ok (.iaload, 1) := by decide +kernel
theorem dX12_isInStock_24 : decode cX12_isInStock 24 = .ok (.ifCond .ne 5, 3) := by decide +kernel
theorem dX12_isInStock_27 : decode cX12_isInStock 27 = .ok (.iconst 0, 1) := by decide +kernel
theorem dX12_isInStock_28 : decode cX12_isInStock 28 = .ok (.ireturn, 1) := by decide +kernel
theorem dX12_isInStock_29 : decode cX12_isInStock 29 = .ok (.iinc 2 1, 3) := by decide +kernel
theorem dX12_isInStock_32 : decode cX12_isInStock 32 = .ok (.goto (-30), 3) := by decide +kernel
theorem dX12_isInStock_35 : decode cX12_isInStock 35 = .ok (.iconst 1, 1) := by decide +kernel
theorem dX12_isInStock_36 : decode cX12_isInStock 36 = .ok (.ireturn, 1) := by decide +kernel
theorem dX12_isCoded_0 : decode cX12_isCoded 0 = .ok (.aload_n 0, 1) := by decide +kernel
theorem dX12_isCoded_1 : decode cX12_isCoded 1 = .ok (.getfield 118, 3) := by decide +kernel
theorem dX12_isCoded_4 : decode cX12_isCoded 4 = .ok (.iconst 2, 1) := by decide +kernel
theorem dX12_isCoded_5 : decode cX12_isCoded 5 = .ok (.iload_n 1, 1) := by decide +kernel
theorem dX12_isCoded_6 : decode cX12_isCoded 6 = .ok (.iadd, 1) := by decide +kernel
theorem dX12_isCoded_7 : decode cX12_isCoded 7 = .ok (.iaload, 1) := by decide +kernel
theorem dX12_isCoded_8 : decode cX12_isCoded 8 = .ok (.iconst (-1), 1) := by decide +kernel
theorem dX12_isCoded_9 : decode cX12_isCoded 9 = .ok (.if_icmp .eq 7, 3) := by decide +kernel
theorem dX12_isCoded_12 : decode cX12_isCoded 12 = .ok (.iconst 1, 1) := by decide +kernel
theorem dX12_isCoded_13 : decode cX12_isCoded 13 = .ok (.goto 4, 3) := by decide +kernel
theorem dX12_isCoded_16 : decode cX12_isCoded 16 = .ok (.iconst 0, 1) := by decide +kernel
theorem dX12_isCoded_17 : decode cX12_isCoded 17 = .ok (.ireturn, 1) := by decide +kernel
theorem dX12_codesTell_0 : decode cX12_codesTell 0 = .ok (.aload_n 0, 1) := by decide +kernel
theorem dX12_codesTell_1 : decode cX12_codesTell 1 = .ok (.iload_n 1, 1) := by decide +kernel
theorem dX12_codesTell_2 : decode cX12_codesTell 2 = .ok (.putfield 315, 3) := by decide +kernel
theorem dX12_codesTell_5 : decode cX12_codesTell 5 = .ok (.aload_n 0, 1) := by decide +kernel
theorem dX12_codesTell_6 : decode cX12_codesTell 6 = .ok (.iconst 0, 1) := by decide +kernel
theorem dX12_codesTell_7 : decode cX12_codesTell 7 = .ok (.putfield 421, 3) := by decide +kernel
theorem dX12_codesTell_10 : decode cX12_codesTell 10 = .ok (.aload_n 0, 1) := by decide +kernel
theorem dX12_codesTell_11 : decode cX12_codesTell 11 = .ok (.getfield 118, 3) := by decide +kernel
theorem dX12_codesTell_14 : decode cX12_codesTell 14 = .ok (.iconst 2, 1) := by decide +kernel
theorem dX12_codesTell_15 : decode cX12_codesTell 15 = .ok (.iload_n 1, 1) := by decide +kernel
theorem dX12_codesTell_16 : decode cX12_codesTell 16 = .ok (.iadd, 1) := by decide +kernel
theorem dX12_codesTell_17 : decode cX12_codesTell 17 = .ok (.iaload, 1) := by decide +kernel
theorem dX12_codesTell_18 : decode cX12_codesTell 18 = .ok (.istore_n 2, 1) := by decide +kernel
theorem dX12_codesTell_19 : decode cX12_codesTell 19 = .ok (.iload_n 2, 1) := by decide +kernel
theorem dX12_codesTell_20 : decode cX12_codesTell 20 = .ok (.aload_n 0, 1) := by decide +kernel
theorem dX12_codesTell_21 : decode cX12_codesTell 21 = .ok (.getfield 121, 3) := by decide +kernel
theorem dX12_codesTell_24 : decode cX12_codesTell 24 = .ok (.iconst 2, 1) := by decide +kernel
theorem dX12_codesTell_25 : decode cX12_codesTell 25 = .ok (.iload_n 1, 1) := by decide +kernel
theorem dX12_codesTell_26 : decode cX12_codesTell 26 = .ok (.iadd, 1) := by decide +kernel
theorem dX12_codesTell_27 : decode cX12_codesTell 27 = .ok (.iaload, 1) := by decide +kernel
theorem dX12_codesTell_28 : decode cX12_codesTell 28 = .ok (.if_icmp .ge 114, 3) := by decide +kernel
theorem dX12_codesTell_31 : decode cX12_codesTell 31 = .ok (.aload_n 0, 1) := by decide +kernel
theorem dX12_codesTell_32 : decode cX12_codesTell 32 = .ok (.getfield 124, 3) := by decide +kernel
theorem dX12_codesTell_35 : decode cX12_codesTell 35 = .ok (.sipush 1600, 3) := by decide +kernel
theorem dX12_codesTell_38 : decode cX12_codesTell 38 = .ok (.iload_n 2, 1) := by decide +kernel
theorem dX12_codesTell_39 : decode cX12_codesTell 39 = .ok (.iadd, 1) := by decide +kernel
theorem dX12_codesTell_40 : decode cX12_codesTell 40 = .ok (.iaload, 1) := by decide +kernel
theorem dX12_codesTell_41 : decode cX12_codesTell 41 = .ok (.istore_n 3, 1) := by decide +kernel
theorem dX12_codesTell_42 : decode cX12_codesTell 42 = .ok (.iload_n 3, 1) := by decide +kernel
theorem dX12_codesTell_43 : decode cX12_codesTell 43 = .ok (.sipush 1000, 3) := by decide +kernel
theorem dX12_codesTell_46 : decode cX12_codesTell 46 = .ok (.if_icmp .lt 16, 3) := by decide +kernel
theorem dX12_codesTell_49 : decode cX12_codesTell 49 = .ok (.aload_n 0, 1) := by decide +kernel
theorem dX12_codesTell_50 : decode cX12_codesTell 50 = .ok (.iload_n 3, 1) := by decide +kernel
theorem dX12_codesTell_51 : decode cX12_codesTell 51 = .ok (.sipush 1000, 3) := by decide +kernel
theorem dX12_codesTell_54 : decode cX12_codesTell 54 = .ok (.isub, 1) := by decide +kernel
theorem dX12_codesTell_55 : decode cX12_codesTell 55 = .ok (.i2l, 1) := by decide +kernel
theorem dX12_codesTell_56 : decode cX12_codesTell 56 = .ok (.invokevirtual 424, 3) := by decide +kernel
theorem dX12_codesTell_59 : decode cX12_codesTell 59 = .ok (.goto 77, 3) := by decide +kernel
theorem dX12_codesTell_62 : decode cX12_codesTell 62 = .ok (.iload_n 3, 1) := by decide +kernel
theorem dX12_codesTell_63 : decode cX12_codesTell 63 = .ok (.bipush 40, 2) := by decide +kernel
theorem dX12_codesTell_65 : decode cX12_codesTell 65 = .ok (.if_icmp .lt 19, 3) := by decide +kernel
theorem dX12_codesTell_68 : decode cX12_codesTell 68 = .ok (.aload_n 0, 1) := by decide +kernel
theorem dX12_codesTell_69 : decode cX12_codesTell 69 = .ok (.aload_n 0, 1) := by decide +kernel
theorem dX12_codesTell_70 : decode cX12_codesTell 70 = .ok (.iload_n 3, 1) := by decide +kernel
theorem dX12_codesTell_71 : decode cX12_codesTell 71 = .ok (.bipush 40, 2) := by decide +kernel
theorem dX12_codesTell_73 : decode cX12_codesTell 73 = .ok (.isub, 1) := by decide +kernel
theorem dX12_codesTell_74 : decode cX12_codesTell 74 = .ok (.iconst 0, 1) := by decide +kernel
theorem dX12_codesTell_75 : decode cX12_codesTell 75 = .ok (.invokevirtual 427, 3) := by decide +kernel
theorem dX12_codesTell_78 : decode cX12_codesTell 78 = .ok (.invokevirtual 424, 3) := by decide +kernel
theorem dX12_codesTell_81 : decode cX12_codesTell 81 = .ok (.goto 55, 3) := by decide +kernel
theorem dX12_codesTell_84 : decode cX12_codesTell 84 = .ok (.iload_n 3, 1) := by decide +kernel
theorem dX12_codesTell_85 : decode cX12_codesTell 85 = .ok (.bipush 13, 2) := by decide +kernel
theorem dX12_codesTell_87 : decode cX12_codesTell 87 = .ok (.if_icmp .ne 11, 3) := by decide +kernel
theorem dX12_codesTell_90 : decode cX12_codesTell 90 = .ok (.aload_n 0, 1) := by decide +kernel
theorem dX12_codesTell_91 : decode cX12_codesTell 91 = .ok (.lconst 1, 1) := by decide +kernel
theorem dX12_codesTell_92 : decode cX12_codesTell 92 = .ok (.invokevirtual 424, 3) := by decide +kernel
theorem dX12_codesTell_95 : decode cX12_codesTell 95 = .ok (.goto 41, 3) := by decide +kernel
theorem dX12_codesTell_98 : decode cX12_codesTell 98 = .ok (.iload_n 3, 1) := by decide +kernel
theorem dX12_codesTell_99 : decode cX12_codesTell 99 = .ok (.bipush 12, 2) := by decide +kernel
theorem dX12_codesTell_101 : decode cX12_codesTell 101 = .ok (.if_icmp .ne 30, 3) := by decide +kernel
theorem dX12_codesTell_104 : decode cX12_codesTell 104 = .ok (.aload_n 0, 1) := by decide +kernel
theorem dX12_codesTell_105 : decode cX12_codesTell 105 = .ok (.getfield 248, 3) := by decide +kernel
theorem dX12_codesTell_108 : decode cX12_codesTell 108 = .ok (.aload_n 0, 1) := by decide +kernel
theorem dX12_codesTell_109 : decode cX12_codesTell 109 = .ok (.getfield 421, 3) := by decide +kernel
theorem dX12_codesTell_112 : decode cX12_codesTell 112 = .ok (.iconst 1, 1) := by decide +kernel
theorem dX12_codesTell_113 : decode cX12_codesTell 113 = .ok (.isub, 1) := by decide +kernel
theorem dX12_codesTell_114 : decode cX12_codesTell 114 = .ok (.lconst 1, 1) := by decide +kernel
theorem dX12_codesTell_115 : decode cX12_codesTell 115 = .ok (.aload_n 0, 1) := by decide +kernel
theorem dX12_codesTell_116 : decode cX12_codesTell 116 = .ok (.getfield 248, 3) := by decide +kernel
theorem dX12_codesTell_119 : decode cX12_codesTell 119 = .ok (.aload_n 0, 1) := by decide +kernel
theorem dX12_codesTell_120 : decode cX12_codesTell 120 = .ok (.getfield 421, 3) := by decide +kernel
theorem dX12_codesTell_123 : decode cX12_codesTell 123 = .ok (.iconst 1, 1) := by decide +kernel
theorem dX12_codesTell_124 : decode cX12_codesTell 124 = .ok (.isub, 1) := by decide +kernel
theorem dX12_codesTell_125 : decode cX12_codesTell 125 = .ok (.laload, 1) := by decide +kernel
theorem dX12_codesTell_126 : decode cX12_codesTell 126 = .ok (.lsub, 1) := by decide +kernel
theorem dX12_codesTell_127 : decode cX12_codesTell 127 = .ok (.lastore, 1) := by decide +kernel
theorem dX12_codesTell_128 : decode cX12_codesTell 128 = .ok (.goto 8, 3) := by decide +kernel
theorem dX12_codesTell_131 : decode cX12_codesTell 131 = .ok (.aload_n 0, 1) := by decide +kernel
theorem dX12_codesTell_132 : decode cX12_codesTell 132 = .ok (.iload_n 3, 1) := by decide +kernel
theorem dX12_codesTell_133 : decode cX12_codesTell 133 = .ok (.invokevirtual 430, 3) := by decide +kernel
theorem dX12_codesTell_136 : decode cX12_codesTell 136 = .ok (.iinc 2 1, 3) := by decide +kernel
theorem dX12_codesTell_139 : decode cX12_codesTell 139 = .ok (.goto (-120), 3) := by decide +kernel
theorem dX12_codesTell_142 : decode cX12_codesTell 142 = .ok (.aload_n 0, 1) := by decide +kernel
theorem dX12_codesTell_143 : decode cX12_codesTell 143 = .ok (.getfield 248, 3) := by decide +kernel
theorem dX12_codesTell_146 : decode cX12_codesTell 146 = .ok (.iconst 0, 1) := by decide +kernel
theorem dX12_codesTell_147 : decode cX12_codesTell 147 = .ok (.laload, 1) := by decide +kernel
theorem dX12_codesTell_148 : decode cX12_codesTell 148 = .ok (.lreturn, 1) := by decide +kernel
theorem dX12_isLiked_0 : decode cX12_isLiked 0 = .ok (.aload_n 0, 1) := by decide +kernel
theorem dX12_isLiked_1 : decode cX12_isLiked 1 = .ok (.iconst 1, 1) := by decide +kernel
theorem dX12_isLiked_2 : decode cX12_isLiked 2 = .ok (.invokevirtual 437, 3) := by decide +kernel
theorem dX12_isLiked_5 : decode cX12_isLiked 5 = .ok (.ifCond .ne 5, 3) := by decide +kernel
theorem dX12_isLiked_8 : decode cX12_isLiked 8 = .ok (.iconst 1, 1) := by decide +kernel
theorem dX12_isLiked_9 : decode cX12_isLiked 9 = .ok (.ireturn, 1) := by decide +kernel
theorem dX12_isLiked_10 : decode cX12_isLiked 10 = .ok (.aload_n 0, 1) := by decide +kernel
theorem dX12_isLiked_11 : decode cX12_isLiked 11 = .ok (.iload_n 1, 1) := by decide +kernel
theorem dX12_isLiked_12 : decode cX12_isLiked 12 = .ok (.putfield 440, 3) := by decide +kernel
theorem dX12_isLiked_15 : decode cX12_isLiked 15 = .ok (.iconst 1, 1) := by decide +kernel
theorem dX12_isLiked_16 : decode cX12_isLiked 16 = .ok (.istore_n 3, 1) := by decide +kernel
theorem dX12_isLiked_17 : decode cX12_isLiked 17 = .ok (.iload_n 3, 1) := by decide +kernel
theorem dX12_isLiked_18 : decode cX12_isLiked 18 = .ok (.aload_n 0, 1) := by decide +kernel
theorem dX12_isLiked_19 : decode cX12_isLiked 19 = .ok (.invokevirtual 396, 3) := by decide +kernel
theorem dX12_isLiked_22 : decode cX12_isLiked 22 = .ok (.if_icmp .gt 37, 3) := by decide +kernel
theorem dX12_isLiked_25 : decode cX12_isLiked 25 = .ok (.iload_n 2, 1) := by decide +kernel
theorem dX12_isLiked_26 : decode cX12_isLiked 26 = .ok (.iload_n 3, 1) := by decide +kernel
theorem dX12_isLiked_27 : decode cX12_isLiked 27 = .ok (.invokestatic 433, 3) := by decide +kernel
theorem dX12_isLiked_30 : decode cX12_isLiked 30 = .ok (.ifCond .ne 6, 3) := by decide +kernel
theorem dX12_isLiked_33 : decode cX12_isLiked 33 = .ok (.goto 20, 3) := by decide +kernel
theorem dX12_isLiked_36 : decode cX12_isLiked 36 = .ok (.aload_n 0, 1) := by decide +kernel
theorem dX12_isLiked_37 : decode cX12_isLiked 37 = .ok (.iload_n 3, 1) := by decide +kernel
theorem dX12_isLiked_38 : decode cX12_isLiked 38 = .ok (.putfield 443, 3) := by decide +kernel
theorem dX12_isLiked_41 : decode cX12_isLiked 41 = .ok (.aload_n 0, 1) := by decide +kernel
theorem dX12_isLiked_42 : decode cX12_isLiked 42 = .ok (.iconst 1, 1) := by decide +kernel
theorem dX12_isLiked_43 : decode cX12_isLiked 43 = .ok (.invokevirtual 446, 3) := by decide +kernel
theorem dX12_isLiked_46 : decode cX12_isLiked 46 = .ok (.lconst 1, 1) := by decide +kernel
theorem dX12_isLiked_47 : decode cX12_isLiked 47 = .ok (.lcmp, 1) := by decide +kernel
theorem dX12_isLiked_48 : decode cX12_isLiked 48 = .ok (.ifCond .eq 5, 3) := by decide +kernel
theorem dX12_isLiked_51 : decode cX12_isLiked 51 = .ok (.iconst 0, 1) := by decide +kernel
theorem dX12_isLiked_52 : decode cX12_isLiked 52 = .ok (.ireturn, 1) := by decide +kernel
theorem dX12_isLiked_53 : decode cX12_isLiked 53 = .ok (.iinc 3 1, 3) := by decide +kernel
theorem dX12_isLiked_56 : decode cX12_isLiked 56 = .ok (.goto (-39), 3) := by decide +kernel
theorem dX12_isLiked_59 : decode cX12_isLiked 59 = .ok (.iconst 1, 1) := by decide +kernel
theorem dX12_isLiked_60 : decode cX12_isLiked 60 = .ok (.ireturn, 1) := by decide +kernel
theorem dX12_writingFor_0 : decode cX12_writingFor 0 = .ok (.iconst 0, 1) := by decide +kernel
theorem dX12_writingFor_1 : decode cX12_writingFor 1 = .ok (.istore_n 2, 1) := by decide +kernel
theorem dX12_writingFor_2 : decode cX12_writingFor 2 = .ok (.iload_n 2, 1) := by decide +kernel
theorem dX12_writingFor_3 : decode cX12_writingFor 3 = .ok (.aload_n 0, 1) := by decide +kernel
theorem dX12_writingFor_4 : decode cX12_writingFor 4 = .ok (.getfield 142, 3) := by decide +kernel
theorem dX12_writingFor_7 : decode cX12_writingFor 7 = .ok (.iload_n 1, 1) := by decide +kernel
theorem dX12_writingFor_8 : decode cX12_writingFor 8 = .ok (.iaload, 1) := by decide +kernel
theorem dX12_writingFor_9 : decode cX12_writingFor 9 = .ok (.if_icmp .ge 50, 3) := by decide +kernel
theorem dX12_writingFor_12 : decode cX12_writingFor 12 = .ok (.aload_n 0, 1) := by decide +kernel
theorem dX12_writingFor_13 : decode cX12_writingFor 13 = .ok (.aload_n 0, 1) := by decide +kernel
theorem dX12_writingFor_14 : decode cX12_writingFor 14 = .ok (.getfield 139, 3) := by decide +kernel
theorem dX12_writingFor_17 : decode cX12_writingFor 17 = .ok (.sipush 2000, 3) := by decide +kernel
theorem dX12_writingFor_20 : decode cX12_writingFor 20 = .ok (.iload_n 1, 1) := by decide +kernel
theorem dX12_writingFor_21 : decode cX12_writingFor 21 = .ok (.imul, 1) := by decide +kernel
theorem dX12_writingFor_22 : decode cX12_writingFor 22 = .ok (.iload_n 2, 1) := by decide +kernel
theorem dX12_writingFor_23 : decode cX12_writingFor 23 = .ok (.iadd, 1) := by decide +kernel
theorem dX12_writingFor_24 : decode cX12_writingFor 24 = .ok (.iaload, 1) := by decide +kernel
theorem dX12_writingFor_25 : decode cX12_writingFor 25 = .ok (.invokevirtual 450, 3) := by decide +kernel
theorem dX12_writingFor_28 : decode cX12_writingFor 28 = .ok (.ifCond .eq 25, 3) := by decide +kernel
theorem dX12_writingFor_31 : decode cX12_writingFor 31 = .ok (.aload_n 0, 1) := by decide +kernel
theorem dX12_writingFor_32 : decode cX12_writingFor 32 = .ok (.iload_n 1, 1) := by decide +kernel
theorem dX12_writingFor_33 : decode cX12_writingFor 33 = .ok (.aload_n 0, 1) := by decide +kernel
theorem dX12_writingFor_34 : decode cX12_writingFor 34 = .ok (.getfield 139, 3) := by decide +kernel
theorem dX12_writingFor_37 : decode cX12_writingFor 37 = .ok (.sipush 2000, 3) := by decide +kernel
theorem dX12_writingFor_40 : decode cX12_writingFor 40 = .ok (.iload_n 1, 1) := by decide +kernel
theorem dX12_writingFor_41 : decode cX12_writingFor 41 = .ok (.imul, 1) := by decide +kernel
theorem dX12_writingFor_42 : decode cX12_writingFor 42 = .ok (.iload_n 2, 1) := by decide +kernel
theorem dX12_writingFor_43 : decode cX12_writingFor 43 = .ok (.iadd, 1) := by decide +kernel
theorem dX12_writingFor_44 : decode cX12_writingFor 44 = .ok (.iaload, 1) := by decide +kernel
theorem dX12_writingFor_45 : decode cX12_writingFor 45 = .ok (.invokevirtual 453, 3) := by decide +kernel
theorem dX12_writingFor_48 : decode cX12_writingFor 48 = .ok (.ifCond .eq 5, 3) := by decide +kernel
theorem dX12_writingFor_51 : decode cX12_writingFor 51 = .ok (.iload_n 2, 1) := by decide +kernel
theorem dX12_writingFor_52 : decode cX12_writingFor 52 = .ok (.ireturn, 1) := by decide +kernel
theorem dX12_writingFor_53 : decode cX12_writingFor 53 = .ok (.iinc 2 1, 3) := by decide +kernel
theorem dX12_writingFor_56 : decode cX12_writingFor 56 = .ok (.goto (-54), 3) := by decide +kernel
theorem dX12_writingFor_59 : decode cX12_writingFor 59 = .ok (.iconst (-1), 1) := by decide +kernel
theorem dX12_writingFor_60 : decode cX12_writingFor 60 = .ok (.ireturn, 1) := by decide +kernel
theorem dX12_moves_0 : decode cX12_moves 0 = .ok (.iconst 1, 1) := by decide +kernel
theorem dX12_moves_1 : decode cX12_moves 1 = .ok (.istore_n 3, 1) := by decide +kernel
theorem dX12_moves_2 : decode cX12_moves 2 = .ok (.iload_n 3, 1) := by decide +kernel
theorem dX12_moves_3 : decode cX12_moves 3 = .ok (.aload_n 0, 1) := by decide +kernel
theorem dX12_moves_4 : decode cX12_moves 4 = .ok (.invokevirtual 396, 3) := by decide +kernel
theorem dX12_moves_7 : decode cX12_moves 7 = .ok (.if_icmp .gt 27, 3) := by decide +kernel
theorem dX12_moves_10 : decode cX12_moves 10 = .ok (.iload_n 1, 1) := by decide +kernel
theorem dX12_moves_11 : decode cX12_moves 11 = .ok (.iload_n 3, 1) := by decide +kernel
theorem dX12_moves_12 : decode cX12_moves 12 = .ok (.invokestatic 433, 3) := by decide +kernel
theorem dX12_moves_15 : decode cX12_moves 15 = .ok (.ifCond .eq 13, 3) := by decide +kernel
theorem dX12_moves_18 : decode cX12_moves 18 = .ok (.aload_n 0, 1) := by decide +kernel
theorem dX12_moves_19 : decode cX12_moves 19 = .ok (.getfield 127, 3) := by decide +kernel
theorem dX12_moves_22 : decode cX12_moves 22 = .ok (.iload_n 3, 1) := by decide +kernel
theorem dX12_moves_23 : decode cX12_moves 23 = .ok (.dup2, 1) := by decide +kernel
theorem dX12_moves_24 : decode cX12_moves 24 = .ok (.iaload, 1) := by decide +kernel
theorem dX12_moves_25 : decode cX12_moves 25 = .ok (.iload_n 2, 1) := by decide +kernel
theorem dX12_moves_26 : decode cX12_moves 26 = .ok (.iadd, 1) := by decide +kernel
theorem dX12_moves_27 : decode cX12_moves 27 = .ok (.iastore, 1) := by decide +kernel
theorem dX12_moves_28 : decode cX12_moves 28 = .ok (.iinc 3 1, 3) := by decide +kernel
theorem dX12_moves_31 : decode cX12_moves 31 = .ok (.goto (-29), 3) := by decide +kernel
theorem dX12_moves_34 : decode cX12_moves 34 = .ok (.return_, 1) := by decide +kernel
theorem dX12_isKept_0 : decode cX12_isKept 0 = .ok (.aload_n 0, 1) := by decide +kernel
theorem dX12_isKept_1 : decode cX12_isKept 1 = .ok (.getfield 459, 3) := by decide +kernel
theorem dX12_isKept_4 : decode cX12_isKept 4 = .ok (.ifCond .eq 4, 3) := by decide +kernel
theorem dX12_isKept_7 : decode cX12_isKept 7 = .ok (.return_, 1) := by decide +kernel
theorem dX12_isKept_8 : decode cX12_isKept 8 = .ok (.aload_n 0, 1) := by decide +kernel
theorem dX12_isKept_9 : decode cX12_isKept 9 = .ok (.getfield 127, 3) := by decide +kernel
theorem dX12_isKept_12 : decode cX12_isKept 12 = .ok (.bipush 37, 2) := by decide +kernel
theorem dX12_isKept_14 : decode cX12_isKept 14 = .ok (.iaload, 1) := by decide +kernel
theorem dX12_isKept_15 : decode cX12_isKept 15 = .ok (.bipush 40, 2) := by decide +kernel
theorem dX12_isKept_17 : decode cX12_isKept 17 = .ok (.if_icmp .ne 36, 3) := by decide +kernel
theorem dX12_isKept_20 : decode cX12_isKept 20 = .ok (.bipush 38, 2) := by decide +kernel
theorem dX12_isKept_22 : decode cX12_isKept 22 = .ok (.istore_n 3, 1) := by decide +kernel
theorem dX12_isKept_23 : decode cX12_isKept 23 = .ok (.iload_n 3, 1) := by decide +kernel
theorem dX12_isKept_24 : decode cX12_isKept 24 = .ok (.sipush 155, 3) := by decide +kernel
theorem dX12_isKept_27 : decode cX12_isKept 27 = .ok (.if_icmp .ge 23, 3) := by decide +kernel
theorem dX12_isKept_30 : decode cX12_isKept 30 = .ok (.aload_n 0, 1) := by decide +kernel
theorem dX12_isKept_31 : decode cX12_isKept 31 = .ok (.getfield 127, 3) := by decide +kernel
theorem dX12_isKept_34 : decode cX12_isKept 34 = .ok (.iload_n 3, 1) := by decide +kernel
theorem dX12_isKept_35 : decode cX12_isKept 35 = .ok (.aload_n 0, 1) := by decide +kernel
theorem dX12_isKept_36 : decode cX12_isKept 36 = .ok (.getfield 127, 3) := by decide +kernel
theorem dX12_isKept_39 : decode cX12_isKept 39 = .ok (.iload_n 3, 1) := by decide +kernel
theorem dX12_isKept_40 : decode cX12_isKept 40 = .ok (.iconst 3, 1) := by decide +kernel
theorem dX12_isKept_41 : decode cX12_isKept 41 = .ok (.iadd, 1) := by decide +kernel
theorem dX12_isKept_42 : decode cX12_isKept 42 = .ok (.iaload, 1) := by decide +kernel
theorem dX12_isKept_43 : decode cX12_isKept 43 = .ok (.iastore, 1) := by decide +kernel
theorem dX12_isKept_44 : decode cX12_isKept 44 = .ok (.iinc 3 1, 3) := by decide +kernel
theorem dX12_isKept_47 : decode cX12_isKept 47 = .ok (.goto (-24), 3) := by decide +kernel
theorem dX12_isKept_50 : decode cX12_isKept 50 = .ok (.goto 14, 3) := by decide +kernel
theorem dX12_isKept_53 : decode cX12_isKept 53 = .ok (.aload_n 0, 1) := by decide +kernel
theorem dX12_isKept_54 : decode cX12_isKept 54 = .ok (.getfield 127, 3) := by decide +kernel
theorem dX12_isKept_57 : decode cX12_isKept 57 = .ok (.bipush 37, 2) := by decide +kernel
theorem dX12_isKept_59 : decode cX12_isKept 59 = .ok (.dup2, 1) := by decide +kernel
theorem dX12_isKept_60 : decode cX12_isKept 60 = .ok (.iaload, 1) := by decide +kernel
theorem dX12_isKept_61 : decode cX12_isKept 61 = .ok (.iconst 1, 1) := by decide +kernel
theorem dX12_isKept_62 : decode cX12_isKept 62 = .ok (.iadd, 1) := by decide +kernel
theorem dX12_isKept_63 : decode cX12_isKept 63 = .ok (.iastore, 1) := by decide +kernel
theorem dX12_isKept_64 : decode cX12_isKept 64 = .ok (.bipush 38, 2) := by decide +kernel
theorem dX12_isKept_66 : decode cX12_isKept 66 = .ok (.iconst 3, 1) := by decide +kernel
theorem dX12_isKept_67 : decode cX12_isKept 67 = .ok (.aload_n 0, 1) := by decide +kernel
theorem dX12_isKept_68 : decode cX12_isKept 68 = .ok (.getfield 127, 3) := by decide +kernel
theorem dX12_isKept_71 : decode cX12_isKept 71 = .ok (.bipush 37, 2) := by decide +kernel
theorem dX12_isKept_73 : decode cX12_isKept 73 = .ok (.iaload, 1) := by decide +kernel
theorem dX12_isKept_74 : decode cX12_isKept 74 = .ok (.imul, 1) := by decide +kernel
theorem dX12_isKept_75 : decode cX12_isKept 75 = .ok (.iadd, 1) := by decide +kernel
theorem dX12_isKept_76 : decode cX12_isKept 76 = .ok (.iconst 3, 1) := by decide +kernel
theorem dX12_isKept_77 : decode cX12_isKept 77 = .ok (.isub, 1) := by decide +kernel
theorem dX12_isKept_78 : decode cX12_isKept 78 = .ok (.istore_n 3, 1) := by decide +kernel
theorem dX12_isKept_79 : decode cX12_isKept 79 = .ok (.aload_n 0, 1) := by decide +kernel
theorem dX12_isKept_80 : decode cX12_isKept 80 = .ok (.getfield 127, 3) := by decide +kernel
theorem dX12_isKept_83 : decode cX12_isKept 83 = .ok (.iload_n 3, 1) := by decide +kernel
theorem dX12_isKept_84 : decode cX12_isKept 84 = .ok (.aload_n 0, 1) := by decide +kernel
theorem dX12_isKept_85 : decode cX12_isKept 85 = .ok (.getfield 127, 3) := by decide +kernel
theorem dX12_isKept_88 : decode cX12_isKept 88 = .ok (.iconst 0, 1) := by decide +kernel
theorem dX12_isKept_89 : decode cX12_isKept 89 = .ok (.iaload, 1) := by decide +kernel
theorem dX12_isKept_90 : decode cX12_isKept 90 = .ok (.iastore, 1) := by decide +kernel
theorem dX12_isKept_91 : decode cX12_isKept 91 = .ok (.aload_n 0, 1) := by decide +kernel
theorem dX12_isKept_92 : decode cX12_isKept 92 = .ok (.getfield 127, 3) := by decide +kernel
theorem dX12_isKept_95 : decode cX12_isKept 95 = .ok (.iload_n 3, 1) := by decide +kernel
theorem dX12_isKept_96 : decode cX12_isKept 96 = .ok (.iconst 1, 1) := by decide +kernel
theorem dX12_isKept_97 : decode cX12_isKept 97 = .ok (.iadd, 1) := by decide +kernel
theorem dX12_isKept_98 : decode cX12_isKept 98 = .ok (.iload_n 1, 1) := by decide +kernel
theorem dX12_isKept_99 : decode cX12_isKept 99 = .ok (.iastore, 1) := by decide +kernel
theorem dX12_isKept_100 : decode cX12_isKept 100 = .ok (.aload_n 0, 1) := by decide +kernel
theorem dX12_isKept_101 : decode cX12_isKept 101 = .ok (.getfield 127, 3) := by decide +kernel
theorem dX12_isKept_104 : decode cX12_isKept 104 = .ok (.iload_n 3, 1) := by decide +kernel
theorem dX12_isKept_105 : decode cX12_isKept 105 = .ok (.iconst 2, 1) := by decide +kernel
theorem dX12_isKept_106 : decode cX12_isKept 106 = .ok (.iadd, 1) := by decide +kernel
theorem dX12_isKept_107 : decode cX12_isKept 107 = .ok (.iload_n 2, 1) := by decide +kernel
theorem dX12_isKept_108 : decode cX12_isKept 108 = .ok (.iastore, 1) := by decide +kernel
theorem dX12_isKept_109 : decode cX12_isKept 109 = .ok (.return_, 1) := by decide +kernel
theorem dX12_hands_0 : decode cX12_hands 0 = .ok (.aload_n 0, 1) := by decide +kernel
theorem dX12_hands_1 : decode cX12_hands 1 = .ok (.iload_n 2, 1) := by decide +kernel
theorem dX12_hands_2 : decode cX12_hands 2 = .ok (.iconst (-1), 1) := by decide +kernel
theorem dX12_hands_3 : decode cX12_hands 3 = .ok (.invokevirtual 462, 3) := by decide +kernel
theorem dX12_hands_6 : decode cX12_hands 6 = .ok (.aload_n 0, 1) := by decide +kernel
theorem dX12_hands_7 : decode cX12_hands 7 = .ok (.getfield 127, 3) := by decide +kernel
theorem dX12_hands_10 : decode cX12_hands 10 = .ok (.bipush 25, 2) := by decide +kernel
theorem dX12_hands_12 : decode cX12_hands 12 = .ok (.iconst 2, 1) := by decide +kernel
theorem dX12_hands_13 : decode cX12_hands 13 = .ok (.iload_n 1, 1) := by decide +kernel
theorem dX12_hands_14 : decode cX12_hands 14 = .ok (.imul, 1) := by decide +kernel
theorem dX12_hands_15 : decode cX12_hands 15 = .ok (.iadd, 1) := by decide +kernel
theorem dX12_hands_16 : decode cX12_hands 16 = .ok (.iconst 0, 1) := by decide +kernel
theorem dX12_hands_17 : decode cX12_hands 17 = .ok (.iastore, 1) := by decide +kernel
theorem dX12_hands_18 : decode cX12_hands 18 = .ok (.aload_n 0, 1) := by decide +kernel
theorem dX12_hands_19 : decode cX12_hands 19 = .ok (.getfield 127, 3) := by decide +kernel
theorem dX12_hands_22 : decode cX12_hands 22 = .ok (.bipush 26, 2) := by decide +kernel
theorem dX12_hands_24 : decode cX12_hands 24 = .ok (.iconst 2, 1) := by decide +kernel
theorem dX12_hands_25 : decode cX12_hands 25 = .ok (.iload_n 1, 1) := by decide +kernel
theorem dX12_hands_26 : decode cX12_hands 26 = .ok (.imul, 1) := by decide +kernel
theorem dX12_hands_27 : decode cX12_hands 27 = .ok (.iadd, 1) := by decide +kernel
theorem dX12_hands_28 : decode cX12_hands 28 = .ok (.sipush 999, 3) := by decide +kernel
theorem dX12_hands_31 : decode cX12_hands 31 = .ok (.aload_n 0, 1) := by decide +kernel
theorem dX12_hands_32 : decode cX12_hands 32 = .ok (.iload_n 1, 1) := by decide +kernel
theorem dX12_hands_33 : decode cX12_hands 33 = .ok (.invokevirtual 465, 3) := by decide +kernel
theorem dX12_hands_36 : decode cX12_hands 36 = .ok (.iconst 1, 1) := by decide +kernel
theorem dX12_hands_37 : decode cX12_hands 37 = .ok (.iadd, 1) := by decide +kernel
theorem dX12_hands_38 : decode cX12_hands 38 = .ok (.invokestatic 468, 3) := by decide +kernel
theorem dX12_hands_41 : decode cX12_hands 41 = .ok (.iastore, 1) := by decide +kernel
theorem dX12_hands_42 : decode cX12_hands 42 = .ok (.aload_n 0, 1) := by decide +kernel
theorem dX12_hands_43 : decode cX12_hands 43 = .ok (.iload_n 1, 1) := by decide +kernel
theorem dX12_hands_44 : decode cX12_hands 44 = .ok (.iload_n 2, 1) := by decide +kernel
theorem dX12_hands_45 : decode cX12_hands 45 = .ok (.invokevirtual 471, 3) := by decide +kernel
theorem dX12_hands_48 : decode cX12_hands 48 = .ok (.return_, 1) := by decide +kernel
theorem dX12_comesBy_0 : decode cX12_comesBy 0 = .ok (.aload_n 0, 1) := by decide +kernel
theorem dX12_comesBy_1 : decode cX12_comesBy 1 = .ok (.iload_n 1, 1) := by decide +kernel
theorem dX12_comesBy_2 : decode cX12_comesBy 2 = .ok (.invokevirtual 456, 3) := by decide +kernel
theorem dX12_comesBy_5 : decode cX12_comesBy 5 = .ok (.istore_n 2, 1) := by decide +kernel
theorem dX12_comesBy_6 : decode cX12_comesBy 6 = .ok (.iload_n 2, 1) := by decide +kernel
theorem dX12_comesBy_7 : decode cX12_comesBy 7 = .ok (.iconst (-1), 1) := by decide +kernel
theorem dX12_comesBy_8 : decode cX12_comesBy 8 = .ok (.if_icmp .ne 27, 3) := by decide +kernel
theorem dX12_comesBy_11 : decode cX12_comesBy 11 = .ok (.aload_n 0, 1) := by decide +kernel
theorem dX12_comesBy_12 : decode cX12_comesBy 12 = .ok (.getfield 127, 3) := by decide +kernel
theorem dX12_comesBy_15 : decode cX12_comesBy 15 = .ok (.bipush 25, 2) := by decide +kernel
theorem dX12_comesBy_17 : decode cX12_comesBy 17 = .ok (.iconst 2, 1) := by decide +kernel
theorem dX12_comesBy_18 : decode cX12_comesBy 18 = .ok (.iload_n 1, 1) := by decide +kernel
theorem dX12_comesBy_19 : decode cX12_comesBy 19 = .ok (.imul, 1) := by decide +kernel
theorem dX12_comesBy_20 : decode cX12_comesBy 20 = .ok (.iadd, 1) := by decide +kernel
theorem dX12_comesBy_21 : decode cX12_comesBy 21 = .ok (.bipush 99, 2) := by decide +kernel
theorem dX12_comesBy_23 : decode cX12_comesBy 23 = .ok (.aload_n 0, 1) := by decide +kernel
theorem dX12_comesBy_24 : decode cX12_comesBy 24 = .ok (.iload_n 1, 1) := by decide +kernel
theorem dX12_comesBy_25 : decode cX12_comesBy 25 = .ok (.invokevirtual 474, 3) := by decide +kernel
theorem dX12_comesBy_28 : decode cX12_comesBy 28 = .ok (.iconst 1, 1) := by decide +kernel
theorem dX12_comesBy_29 : decode cX12_comesBy 29 = .ok (.iadd, 1) := by decide +kernel
theorem dX12_comesBy_30 : decode cX12_comesBy 30 = .ok (.invokestatic 468, 3) := by decide +kernel
theorem dX12_comesBy_33 : decode cX12_comesBy 33 = .ok (.iastore, 1) := by decide +kernel
theorem dX12_comesBy_34 : decode cX12_comesBy 34 = .ok (.return_, 1) := by decide +kernel
theorem dX12_comesBy_35 : decode cX12_comesBy 35 = .ok (.aload_n 0, 1) := by decide +kernel
theorem dX12_comesBy_36 : decode cX12_comesBy 36 = .ok (.iload_n 1, 1) := by decide +kernel
theorem dX12_comesBy_37 : decode cX12_comesBy 37 = .ok (.aload_n 0, 1) := by decide +kernel
theorem dX12_comesBy_38 : decode cX12_comesBy 38 = .ok (.getfield 139, 3) := by decide +kernel
theorem dX12_comesBy_41 : decode cX12_comesBy 41 = .ok (.sipush 2000, 3) := by decide +kernel
theorem dX12_comesBy_44 : decode cX12_comesBy 44 = .ok (.iload_n 1, 1) := by decide +kernel
theorem dX12_comesBy_45 : decode cX12_comesBy 45 = .ok (.imul, 1) := by decide +kernel
theorem dX12_comesBy_46 : decode cX12_comesBy 46 = .ok (.iload_n 2, 1) := by decide +kernel
theorem dX12_comesBy_47 : decode cX12_comesBy 47 = .ok (.iadd, 1) := by decide +kernel
theorem dX12_comesBy_48 : decode cX12_comesBy 48 = .ok (.iaload, 1) := by decide +kernel
theorem dX12_comesBy_49 : decode cX12_comesBy 49 = .ok (.invokevirtual 477, 3) := by decide +kernel
theorem dX12_comesBy_52 : decode cX12_comesBy 52 = .ok (.aload_n 0, 1) := by decide +kernel
theorem dX12_comesBy_53 : decode cX12_comesBy 53 = .ok (.dup, 1) := by decide +kernel
theorem dX12_comesBy_54 : decode cX12_comesBy 54 = .ok (.getfield 480, 3) := by decide +kernel
theorem dX12_comesBy_57 : decode cX12_comesBy 57 = .ok (.iconst 1, 1) := by decide +kernel
theorem dX12_comesBy_58 : decode cX12_comesBy 58 = .ok (.iadd, 1) := by decide +kernel
theorem dX12_comesBy_59 : decode cX12_comesBy 59 = .ok (.putfield 480, 3) := by decide +kernel
theorem dX12_comesBy_62 : decode cX12_comesBy 62 = .ok (.aload_n 0, 1) := by decide +kernel
theorem dX12_comesBy_63 : decode cX12_comesBy 63 = .ok (.dup, 1) := by decide +kernel
theorem dX12_comesBy_64 : decode cX12_comesBy 64 = .ok (.getfield 483, 3) := by decide +kernel
theorem dX12_comesBy_67 : decode cX12_comesBy 67 = .ok (.iconst 1, 1) := by decide +kernel
theorem dX12_comesBy_68 : decode cX12_comesBy 68 = .ok (.iload_n 1, 1) := by decide +kernel
theorem dX12_comesBy_69 : decode cX12_comesBy 69 = .ok (.ishl, 1) := by decide +kernel
theorem dX12_comesBy_70 : decode cX12_comesBy 70 = .ok (.ior, 1) := by decide +kernel
theorem dX12_comesBy_71 : decode cX12_comesBy 71 = .ok (.putfield 483, 3) := by decide +kernel
theorem dX12_comesBy_74 : decode cX12_comesBy 74 = .ok (.return_, 1) := by decide +kernel
theorem dX12_dayGoes_0 : decode cX12_dayGoes 0 = .ok (.aload_n 0, 1) := by decide +kernel
theorem dX12_dayGoes_1 : decode cX12_dayGoes 1 = .ok (.iconst 0, 1) := by decide +kernel
theorem dX12_dayGoes_2 : decode cX12_dayGoes 2 = .ok (.putfield 483, 3) := by decide +kernel
theorem dX12_dayGoes_5 : decode cX12_dayGoes 5 = .ok (.aload_n 0, 1) := by decide +kernel
theorem dX12_dayGoes_6 : decode cX12_dayGoes 6 = .ok (.getfield 127, 3) := by decide +kernel
theorem dX12_dayGoes_9 : decode cX12_dayGoes 9 = .ok (.iconst 1, 1) := by decide +kernel
theorem dX12_dayGoes_10 : decode cX12_dayGoes 10 = .ok (.sipush 999, 3) := by decide +kernel
theorem dX12_dayGoes_13 : decode cX12_dayGoes 13 = .ok (.aload_n 0, 1) := by decide +kernel
theorem dX12_dayGoes_14 : decode cX12_dayGoes 14 = .ok (.getfield 127, 3) := by decide +kernel
theorem dX12_dayGoes_17 : decode cX12_dayGoes 17 = .ok (.iconst 1, 1) := by decide +kernel
theorem dX12_dayGoes_18 : decode cX12_dayGoes 18 = .ok (.iaload, 1) := by decide +kernel
theorem dX12_dayGoes_19 : decode cX12_dayGoes 19 = .ok (.aload_n 0, 1) := by decide +kernel
theorem dX12_dayGoes_20 : decode cX12_dayGoes 20 = .ok (.getfield 105, 3) := by decide +kernel
theorem dX12_dayGoes_23 : decode cX12_dayGoes 23 = .ok (.bipush 8, 2) := by decide +kernel
theorem dX12_dayGoes_25 : decode cX12_dayGoes 25 = .ok (.iaload, 1) := by decide +kernel
theorem dX12_dayGoes_26 : decode cX12_dayGoes 26 = .ok (.iadd, 1) := by decide +kernel
theorem dX12_dayGoes_27 : decode cX12_dayGoes 27 = .ok (.invokestatic 468, 3) := by decide +kernel
theorem dX12_dayGoes_30 : decode cX12_dayGoes 30 = .ok (.iastore, 1) := by decide +kernel
theorem dX12_dayGoes_31 : decode cX12_dayGoes 31 = .ok (.iconst 0, 1) := by decide +kernel
theorem dX12_dayGoes_32 : decode cX12_dayGoes 32 = .ok (.istore_n 1, 1) := by decide +kernel
theorem dX12_dayGoes_33 : decode cX12_dayGoes 33 = .ok (.iload_n 1, 1) := by decide +kernel
theorem dX12_dayGoes_34 : decode cX12_dayGoes 34 = .ok (.aload_n 0, 1) := by decide +kernel
theorem dX12_dayGoes_35 : decode cX12_dayGoes 35 = .ok (.invokevirtual 399, 3) := by decide +kernel
theorem dX12_dayGoes_38 : decode cX12_dayGoes 38 = .ok (.if_icmp .ge 14, 3) := by decide +kernel
theorem dX12_dayGoes_41 : decode cX12_dayGoes 41 = .ok (.aload_n 0, 1) := by decide +kernel
theorem dX12_dayGoes_42 : decode cX12_dayGoes 42 = .ok (.iload_n 1, 1) := by decide +kernel
theorem dX12_dayGoes_43 : decode cX12_dayGoes 43 = .ok (.invokevirtual 486, 3) := by decide +kernel
theorem dX12_dayGoes_46 : decode cX12_dayGoes 46 = .ok (.iinc 1 1, 3) := by decide +kernel
theorem dX12_dayGoes_49 : decode cX12_dayGoes 49 = .ok (.goto (-16), 3) := by decide +kernel
theorem dX12_dayGoes_52 : decode cX12_dayGoes 52 = .ok (.aload_n 0, 1) := by decide +kernel
theorem dX12_dayGoes_53 : decode cX12_dayGoes 53 = .ok (.getfield 127, 3) := by decide +kernel
theorem dX12_dayGoes_56 : decode cX12_dayGoes 56 = .ok (.iconst 0, 1) := by decide +kernel
theorem dX12_dayGoes_57 : decode cX12_dayGoes 57 = .ok (.dup2, 1) := by decide +kernel
theorem dX12_dayGoes_58 : decode cX12_dayGoes 58 = .ok (.iaload, 1) := by decide +kernel
theorem dX12_dayGoes_59 : decode cX12_dayGoes 59 = .ok (.iconst 1, 1) := by decide +kernel
theorem dX12_dayGoes_60 : decode cX12_dayGoes 60 = .ok (.iadd, 1) := by decide +kernel
theorem dX12_dayGoes_61 : decode cX12_dayGoes 61 = .ok (.iastore, 1) := by decide +kernel
theorem dX12_dayGoes_62 : decode cX12_dayGoes 62 = .ok (.return_, 1) := by decide +kernel
theorem dX12_chance_0 : decode cX12_chance 0 = .ok (.aload_n 0, 1) := by decide +kernel
theorem dX12_chance_1 : decode cX12_chance 1 = .ok (.iload_n 1, 1) := by decide +kernel
theorem dX12_chance_2 : decode cX12_chance 2 = .ok (.iconst 1, 1) := by decide +kernel
theorem dX12_chance_3 : decode cX12_chance 3 = .ok (.bipush 100, 2) := by decide +kernel
theorem dX12_chance_5 : decode cX12_chance 5 = .ok (.invokevirtual 545, 3) := by decide +kernel
theorem dX12_chance_8 : decode cX12_chance 8 = .ok (.ifCond .ne 9, 3) := by decide +kernel
theorem dX12_chance_11 : decode cX12_chance 11 = .ok (.aload_n 0, 1) := by decide +kernel
theorem dX12_chance_12 : decode cX12_chance 12 = .ok (.iconst 3, 1) := by decide +kernel
theorem dX12_chance_13 : decode cX12_chance 13 = .ok (.invokevirtual 376, 3) := by decide +kernel
theorem dX12_chance_16 : decode cX12_chance 16 = .ok (.ireturn, 1) := by decide +kernel
theorem dX12_chance_17 : decode cX12_chance 17 = .ok (.aload_n 0, 1) := by decide +kernel
theorem dX12_chance_18 : decode cX12_chance 18 = .ok (.invokevirtual 593, 3) := by decide +kernel
theorem dX12_chance_21 : decode cX12_chance 21 = .ok (.iconst 0, 1) := by decide +kernel
theorem dX12_chance_22 : decode cX12_chance 22 = .ok (.istore_n 2, 1) := by decide +kernel
theorem dX12_chance_23 : decode cX12_chance 23 = .ok (.iconst 0, 1) := by decide +kernel
theorem dX12_chance_24 : decode cX12_chance 24 = .ok (.istore_n 3, 1) := by decide +kernel
theorem dX12_chance_25 : decode cX12_chance 25 = .ok (.iload_n 3, 1) := by decide +kernel
theorem dX12_chance_26 : decode cX12_chance 26 = .ok (.iload_n 1, 1) := by decide +kernel
theorem dX12_chance_27 : decode cX12_chance 27 = .ok (.if_icmp .ge 49, 3) := by decide +kernel
theorem dX12_chance_30 : decode cX12_chance 30 = .ok (.aload_n 0, 1) := by decide +kernel
theorem dX12_chance_31 : decode cX12_chance 31 = .ok (.bipush 100, 2) := by decide +kernel
theorem dX12_chance_33 : decode cX12_chance 33 = .ok (.invokevirtual 610, 3) := by decide +kernel
theorem dX12_chance_36 : decode cX12_chance 36 = .ok (.aload_n 0, 1) := by decide +kernel
theorem dX12_chance_37 : decode cX12_chance 37 = .ok (.getfield 105, 3) := by decide +kernel
theorem dX12_chance_40 : decode cX12_chance 40 = .ok (.bipush 9, 2) := by decide +kernel
theorem dX12_chance_42 : decode cX12_chance 42 = .ok (.iaload, 1) := by decide +kernel
theorem dX12_chance_43 : decode cX12_chance 43 = .ok (.if_icmp .ge 23, 3) := by decide +kernel
theorem dX12_chance_46 : decode cX12_chance 46 = .ok (.aload_n 0, 1) := by decide +kernel
theorem dX12_chance_47 : decode cX12_chance 47 = .ok (.iconst 1, 1) := by decide +kernel
theorem dX12_chance_48 : decode cX12_chance 48 = .ok (.aload_n 0, 1) := by decide +kernel
theorem dX12_chance_49 : decode cX12_chance 49 = .ok (.aload_n 0, 1) := by decide +kernel
theorem dX12_chance_50 : decode cX12_chance 50 = .ok (.invokevirtual 396, 3) := by decide +kernel
theorem dX12_chance_53 : decode cX12_chance 53 = .ok (.invokevirtual 610, 3) := by decide +kernel
theorem dX12_chance_56 : decode cX12_chance 56 = .ok (.iadd, 1) := by decide +kernel
theorem dX12_chance_57 : decode cX12_chance 57 = .ok (.invokevirtual 578, 3) := by decide +kernel
theorem dX12_chance_60 : decode cX12_chance 60 = .ok (.ifCond .eq 6, 3) := by decide +kernel
theorem dX12_chance_63 : decode cX12_chance 63 = .ok (.iinc 2 1, 3) := by decide +kernel
theorem dX12_chance_66 : decode cX12_chance 66 = .ok (.aload_n 0, 1) := by decide +kernel
theorem dX12_chance_67 : decode cX12_chance 67 = .ok (.invokevirtual 489, 3) := by decide +kernel
theorem dX12_chance_70 : decode cX12_chance 70 = .ok (.iinc 3 1, 3) := by decide +kernel
theorem dX12_chance_73 : decode cX12_chance 73 = .ok (.goto (-48), 3) := by decide +kernel
theorem dX12_chance_76 : decode cX12_chance 76 = .ok (.iload_n 2, 1) := by decide +kernel
theorem dX12_chance_77 : decode cX12_chance 77 = .ok (.ireturn, 1) := by decide +kernel
theorem dX12_isShare_0 : decode cX12_isShare 0 = .ok (.aload_n 0, 1) := by decide +kernel
theorem dX12_isShare_1 : decode cX12_isShare 1 = .ok (.getfield 383, 3) := by decide +kernel
theorem dX12_isShare_4 : decode cX12_isShare 4 = .ok (.ifCond .eq 31, 3) := by decide +kernel
theorem dX12_isShare_7 : decode cX12_isShare 7 = .ok (.iload_n 1, 1) := by decide +kernel
theorem dX12_isShare_8 : decode cX12_isShare 8 = .ok (.i2l, 1) := by decide +kernel
theorem dX12_isShare_9 : decode cX12_isShare 9 = .ok (.lconst 1, 1) := by decide +kernel
theorem dX12_isShare_10 : decode cX12_isShare 10 = .ok (.ldc2_w 516, 3) := by decide +kernel
theorem dX12_isShare_13 : decode cX12_isShare 13 = .ok (.invokestatic 300, 3) := by decide +kernel
theorem dX12_isShare_16 : decode cX12_isShare 16 = .ok (.ifCond .eq 19, 3) := by decide +kernel
theorem dX12_isShare_19 : decode cX12_isShare 19 = .ok (.iload_n 2, 1) := by decide +kernel
theorem dX12_isShare_20 : decode cX12_isShare 20 = .ok (.i2l, 1) := by decide +kernel
theorem dX12_isShare_21 : decode cX12_isShare 21 = .ok (.lconst 1, 1) := by decide +kernel
theorem dX12_isShare_22 : decode cX12_isShare 22 = .ok (.ldc2_w 516, 3) := by decide +kernel
theorem dX12_isShare_25 : decode cX12_isShare 25 = .ok (.invokestatic 300, 3) := by decide +kernel
theorem dX12_isShare_28 : decode cX12_isShare 28 = .ok (.ifCond .eq 7, 3) := by decide +kernel
theorem dX12_isShare_31 : decode cX12_isShare 31 = .ok (.iconst 1, 1) := by decide +kernel
theorem dX12_isShare_32 : decode cX12_isShare 32 = .ok (.goto 4, 3) := by decide +kernel
theorem dX12_isShare_35 : decode cX12_isShare 35 = .ok (.iconst 0, 1) := by decide +kernel
theorem dX12_isShare_36 : decode cX12_isShare 36 = .ok (.ireturn, 1) := by decide +kernel
theorem dX12_partsOf_0 : decode cX12_partsOf 0 = .ok (.ldc2_w 402, 3) := by decide +kernel
theorem dX12_partsOf_3 : decode cX12_partsOf 3 = .ok (.iload_n 0, 1) := by decide +kernel
theorem dX12_partsOf_4 : decode cX12_partsOf 4 = .ok (.i2l, 1) := by decide +kernel
theorem dX12_partsOf_5 : decode cX12_partsOf 5 = .ok (.lmul, 1) := by decide +kernel
theorem dX12_partsOf_6 : decode cX12_partsOf 6 = .ok (.iload_n 1, 1) := by decide +kernel
theorem dX12_partsOf_7 : decode cX12_partsOf 7 = .ok (.i2l, 1) := by decide +kernel
theorem dX12_partsOf_8 : decode cX12_partsOf 8 = .ok (.lrem, 1) := by decide +kernel
theorem dX12_partsOf_9 : decode cX12_partsOf 9 = .ok (.lconst 0, 1) := by decide +kernel
theorem dX12_partsOf_10 : decode cX12_partsOf 10 = .ok (.lcmp, 1) := by decide +kernel
theorem dX12_partsOf_11 : decode cX12_partsOf 11 = .ok (.ifCond .ne 15, 3) := by decide +kernel
theorem dX12_partsOf_14 : decode cX12_partsOf 14 = .ok (.ldc2_w 402, 3) := by decide +kernel
theorem dX12_partsOf_17 : decode cX12_partsOf 17 = .ok (.iload_n 0, 1) := by decide +kernel
theorem dX12_partsOf_18 : decode cX12_partsOf 18 = .ok (.i2l, 1) := by decide +kernel
theorem dX12_partsOf_19 : decode cX12_partsOf 19 = .ok (.lmul, 1) := by decide +kernel
theorem dX12_partsOf_20 : decode cX12_partsOf 20 = .ok (.iload_n 1, 1) := by decide +kernel
theorem dX12_partsOf_21 : decode cX12_partsOf 21 = .ok (.i2l, 1) := by decide +kernel
theorem dX12_partsOf_22 : decode cX12_partsOf 22 = .ok (.ldiv, 1) := by decide +kernel
theorem dX12_partsOf_23 : decode cX12_partsOf 23 = .ok (.goto 4, 3) := by decide +kernel
theorem dX12_partsOf_26 : decode cX12_partsOf 26 = .ok (.lconst 0, 1) := by decide +kernel
theorem dX12_partsOf_27 : decode cX12_partsOf 27 = .ok (.lreturn, 1) := by decide +kernel
theorem dX12_costOf_0 : decode cX12_costOf 0 = .ok (.lconst 0, 1) := by decide +kernel
theorem dX12_costOf_1 : decode cX12_costOf 1 = .ok (.lstore_n 2, 1) := by decide +kernel
theorem dX12_costOf_2 : decode cX12_costOf 2 = .ok (.aload_n 0, 1) := by decide +kernel
theorem dX12_costOf_3 : decode cX12_costOf 3 = .ok (.iconst 0, 1) := by decide +kernel
theorem dX12_costOf_4 : decode cX12_costOf 4 = .ok (.putfield 527, 3) := by decide +kernel
theorem dX12_costOf_7 : decode cX12_costOf 7 = .ok (.iconst 1, 1) := by decide +kernel
theorem dX12_costOf_8 : decode cX12_costOf 8 = .ok (.istore 4, 2) := by decide +kernel
theorem dX12_costOf_10 : decode cX12_costOf 10 = .ok (.iload 4, 2) := by decide +kernel
theorem dX12_costOf_12 : decode cX12_costOf 12 = .ok (.aload_n 0, 1) := by decide +kernel
theorem dX12_costOf_13 : decode cX12_costOf 13 = .ok (.invokevirtual 396, 3) := by decide +kernel
theorem dX12_costOf_16 : decode cX12_costOf 16 = .ok (.if_icmp .gt 59, 3) := by decide +kernel
theorem dX12_costOf_19 : decode cX12_costOf 19 = .ok (.iload_n 1, 1) := by decide +kernel
theorem dX12_costOf_20 : decode cX12_costOf 20 = .ok (.iload 4, 2) := by decide +kernel
theorem dX12_costOf_22 : decode cX12_costOf 22 = .ok (.invokestatic 433, 3) := by decide +kernel
theorem dX12_costOf_25 : decode cX12_costOf 25 = .ok (.ifCond .ne 6, 3) := by decide +kernel
theorem dX12_costOf_28 : decode cX12_costOf 28 = .ok (.goto 41, 3) := by decide +kernel
theorem dX12_costOf_31 : decode cX12_costOf 31 = .ok (.aload_n 0, 1) := by decide +kernel
theorem dX12_costOf_32 : decode cX12_costOf 32 = .ok (.iload 4, 2) := by decide +kernel
theorem dX12_costOf_34 : decode cX12_costOf 34 = .ok (.putfield 443, 3) := by decide +kernel
theorem dX12_costOf_37 : decode cX12_costOf 37 = .ok (.lload_n 2, 1) := by decide +kernel
theorem dX12_costOf_38 : decode cX12_costOf 38 = .ok (.aload_n 0, 1) := by decide +kernel
theorem dX12_costOf_39 : decode cX12_costOf 39 = .ok (.iconst 0, 1) := by decide +kernel
theorem dX12_costOf_40 : decode cX12_costOf 40 = .ok (.invokevirtual 437, 3) := by decide +kernel
theorem dX12_costOf_43 : decode cX12_costOf 43 = .ok (.ifCond .eq 11, 3) := by decide +kernel
theorem dX12_costOf_46 : decode cX12_costOf 46 = .ok (.aload_n 0, 1) := by decide +kernel
theorem dX12_costOf_47 : decode cX12_costOf 47 = .ok (.iconst 0, 1) := by decide +kernel
theorem dX12_costOf_48 : decode cX12_costOf 48 = .ok (.invokevirtual 446, 3) := by decide +kernel
theorem dX12_costOf_51 : decode cX12_costOf 51 = .ok (.goto 6, 3) := by decide +kernel
theorem dX12_costOf_54 : decode cX12_costOf 54 = .ok (.iload 4, 2) := by decide +kernel
theorem dX12_costOf_56 : decode cX12_costOf 56 = .ok (.i2l, 1) := by decide +kernel
theorem dX12_costOf_57 : decode cX12_costOf 57 = .ok (.ladd, 1) := by decide +kernel
theorem dX12_costOf_58 : decode cX12_costOf 58 = .ok (.lstore_n 2, 1) := by decide +kernel
theorem dX12_costOf_59 : decode cX12_costOf 59 = .ok (.aload_n 0, 1) := by decide +kernel
theorem dX12_costOf_60 : decode cX12_costOf 60 = .ok (.dup, 1) := by decide +kernel
theorem dX12_costOf_61 : decode cX12_costOf 61 = .ok (.getfield 527, 3) := by decide +kernel
theorem dX12_costOf_64 : decode cX12_costOf 64 = .ok (.iconst 1, 1) := by decide +kernel
theorem dX12_costOf_65 : decode cX12_costOf 65 = .ok (.iadd, 1) := by decide +kernel
theorem dX12_costOf_66 : decode cX12_costOf 66 = .ok (.putfield 527, 3) := by decide +kernel
theorem dX12_costOf_69 : decode cX12_costOf 69 = .ok (.iinc 4 1, 3) := by decide +kernel
theorem dX12_costOf_72 : decode cX12_costOf 72 = .ok (.goto (-62), 3) := by decide +kernel
theorem dX12_costOf_75 : decode cX12_costOf 75 = .ok (.lload_n 2, 1) := by decide +kernel
theorem dX12_costOf_76 : decode cX12_costOf 76 = .ok (.lreturn, 1) := by decide +kernel
theorem dX12_cheapest_0 : decode cX12_cheapest 0 = .ok (.aload_n 0, 1) := by decide +kernel
theorem dX12_cheapest_1 : decode cX12_cheapest 1 = .ok (.iload_n 1, 1) := by decide +kernel
theorem dX12_cheapest_2 : decode cX12_cheapest 2 = .ok (.iload_n 2, 1) := by decide +kernel
theorem dX12_cheapest_3 : decode cX12_cheapest 3 = .ok (.invokevirtual 518, 3) := by decide +kernel
theorem dX12_cheapest_6 : decode cX12_cheapest 6 = .ok (.ifCond .eq 13, 3) := by decide +kernel
theorem dX12_cheapest_9 : decode cX12_cheapest 9 = .ok (.iload_n 3, 1) := by decide +kernel
theorem dX12_cheapest_10 : decode cX12_cheapest 10 = .ok (.i2l, 1) := by decide +kernel
theorem dX12_cheapest_11 : decode cX12_cheapest 11 = .ok (.lconst 0, 1) := by decide +kernel
theorem dX12_cheapest_12 : decode cX12_cheapest 12 = .ok (.lconst 1, 1) := by decide +kernel
theorem dX12_cheapest_13 : decode cX12_cheapest 13 = .ok (.invokestatic 300, 3) := by decide +kernel
theorem dX12_cheapest_16 : decode cX12_cheapest 16 = .ok (.ifCond .ne 7, 3) := by decide +kernel
theorem dX12_cheapest_19 : decode cX12_cheapest 19 = .ok (.ldc2_w 530, 3) := by decide +kernel
theorem dX12_cheapest_22 : decode cX12_cheapest 22 = .ok (.lreturn, 1) := by decide +kernel
theorem dX12_cheapest_23 : decode cX12_cheapest 23 = .ok (.aload_n 0, 1) := by decide +kernel
theorem dX12_cheapest_24 : decode cX12_cheapest 24 = .ok (.iload_n 1, 1) := by decide +kernel
theorem dX12_cheapest_25 : decode cX12_cheapest 25 = .ok (.iload_n 2, 1) := by decide +kernel
theorem dX12_cheapest_26 : decode cX12_cheapest 26 = .ok (.invokestatic 413, 3) := by decide +kernel
theorem dX12_cheapest_29 : decode cX12_cheapest 29 = .ok (.invokevirtual 417, 3) := by decide +kernel
theorem dX12_cheapest_32 : decode cX12_cheapest 32 = .ok (.aload_n 0, 1) := by decide +kernel
theorem dX12_cheapest_33 : decode cX12_cheapest 33 = .ok (.getfield 404, 3) := by decide +kernel
theorem dX12_cheapest_36 : decode cX12_cheapest 36 = .ok (.ifCond .ne 7, 3) := by decide +kernel
theorem dX12_cheapest_39 : decode cX12_cheapest 39 = .ok (.ldc2_w 530, 3) := by decide +kernel
theorem dX12_cheapest_42 : decode cX12_cheapest 42 = .ok (.lreturn, 1) := by decide +kernel
theorem dX12_cheapest_43 : decode cX12_cheapest 43 = .ok (.aload_n 0, 1) := by decide +kernel
theorem dX12_cheapest_44 : decode cX12_cheapest 44 = .ok (.getfield 130, 3) := by decide +kernel
theorem dX12_cheapest_47 : decode cX12_cheapest 47 = .ok (.iconst 0, 1) := by decide +kernel
theorem dX12_cheapest_48 : decode cX12_cheapest 48 = .ok (.iaload, 1) := by decide +kernel
theorem dX12_cheapest_49 : decode cX12_cheapest 49 = .ok (.istore 4, 2) := by decide +kernel
theorem dX12_cheapest_51 : decode cX12_cheapest 51 = .ok (.aload_n 0, 1) := by decide +kernel
theorem dX12_cheapest_52 : decode cX12_cheapest 52 = .ok (.iload 4, 2) := by decide +kernel
theorem dX12_cheapest_54 : decode cX12_cheapest 54 = .ok (.invokevirtual 532, 3) := by decide +kernel
theorem dX12_cheapest_57 : decode cX12_cheapest 57 = .ok (.lstore 5, 2) := by decide +kernel
theorem dX12_cheapest_59 : decode cX12_cheapest 59 = .ok (.iconst 1, 1) := by decide +kernel
theorem dX12_cheapest_60 : decode cX12_cheapest 60 = .ok (.istore 7, 2) := by decide +kernel
theorem dX12_cheapest_62 : decode cX12_cheapest 62 = .ok (.iload 7, 2) := by decide +kernel
theorem dX12_cheapest_64 : decode cX12_cheapest 64 = .ok (.aload_n 0, 1) := by decide +kernel
theorem dX12_cheapest_65 : decode cX12_cheapest 65 = .ok (.getfield 404, 3) := by decide +kernel
theorem dX12_cheapest_68 : decode cX12_cheapest 68 = .ok (.if_icmp .ge 46, 3) := by decide +kernel
theorem dX12_cheapest_71 : decode cX12_cheapest 71 = .ok (.aload_n 0, 1) := by decide +kernel
theorem dX12_cheapest_72 : decode cX12_cheapest 72 = .ok (.aload_n 0, 1) := by decide +kernel
theorem dX12_cheapest_73 : decode cX12_cheapest 73 = .ok (.getfield 130, 3) := by decide +kernel
theorem dX12_cheapest_76 : decode cX12_cheapest 76 = .ok (.iload 7, 2) := by decide +kernel
theorem dX12_cheapest_78 : decode cX12_cheapest 78 = .ok (.iaload, 1) := by decide +kernel
theorem dX12_cheapest_79 : decode cX12_cheapest 79 = .ok (.invokevirtual 532, 3) := by decide +kernel
theorem dX12_cheapest_82 : decode cX12_cheapest 82 = .ok (.lstore 8, 2) := by decide +kernel
theorem dX12_cheapest_84 : decode cX12_cheapest 84 = .ok (.lload 8, 2) := by decide +kernel
theorem dX12_cheapest_86 : decode cX12_cheapest 86 = .ok (.lload 5, 2) := by decide +kernel
theorem dX12_cheapest_88 : decode cX12_cheapest 88 = .ok (.lcmp, 1) := by decide +kernel
theorem dX12_cheapest_89 : decode cX12_cheapest 89 = .ok (.ifCond .lt 6, 3) := by decide +kernel
theorem dX12_cheapest_92 : decode cX12_cheapest 92 = .ok (.goto 16, 3) := by decide +kernel
theorem dX12_cheapest_95 : decode cX12_cheapest 95 = .ok (.aload_n 0, 1) := by decide +kernel
theorem dX12_cheapest_96 : decode cX12_cheapest 96 = .ok (.getfield 130, 3) := by decide +kernel
theorem dX12_cheapest_99 : decode cX12_cheapest 99 = .ok (.iload 7, 2) := by decide +kernel
theorem dX12_cheapest_101 : decode cX12_cheapest 101 = .ok (.iaload, 1) := by decide +kernel
theorem dX12_cheapest_102 : decode cX12_cheapest 102 = .ok (.istore 4, 2) := by decide +kernel
theorem dX12_cheapest_104 : decode cX12_cheapest 104 = .ok (.lload 8, 2) := by decide +kernel
theorem dX12_cheapest_106 : decode cX12_cheapest 106 = .ok (.lstore 5, 2) := by decide +kernel
theorem dX12_cheapest_108 : decode cX12_cheapest 108 = .ok (.iinc 7 1, 3) := by decide +kernel
theorem dX12_cheapest_111 : decode cX12_cheapest 111 = .ok (.goto (-49), 3) := by decide +kernel
theorem dX12_cheapest_114 : decode cX12_cheapest 114 = .ok (.iload_n 3, 1) := by decide +kernel
theorem dX12_cheapest_115 : decode cX12_cheapest 115 = .ok (.ifCond .ne 9, 3) := by decide +kernel
theorem dX12_cheapest_118 : decode cX12_cheapest 118 = .ok (.iload 4, 2) := by decide +kernel
theorem dX12_cheapest_120 : decode cX12_cheapest 120 = .ok (.i2l, 1) := by decide +kernel
theorem dX12_cheapest_121 : decode cX12_cheapest 121 = .ok (.goto 5, 3) := by decide +kernel
theorem dX12_cheapest_124 : decode cX12_cheapest 124 = .ok (.lload 5, 2) := by decide +kernel
theorem dX12_cheapest_126 : decode cX12_cheapest 126 = .ok (.lreturn, 1) := by decide +kernel
theorem dX12_checked_0 : decode cX12_checked 0 = .ok (.sipush 229, 3) := by decide +kernel
theorem dX12_checked_3 : decode cX12_checked 3 = .ok (.istore_n 2, 1) := by decide +kernel
theorem dX12_checked_4 : decode cX12_checked 4 = .ok (.iconst 0, 1) := by decide +kernel
theorem dX12_checked_5 : decode cX12_checked 5 = .ok (.istore_n 3, 1) := by decide +kernel
theorem dX12_checked_6 : decode cX12_checked 6 = .ok (.iload_n 3, 1) := by decide +kernel
theorem dX12_checked_7 : decode cX12_checked 7 = .ok (.iload_n 1, 1) := by decide +kernel
theorem dX12_checked_8 : decode cX12_checked 8 = .ok (.if_icmp .ge 21, 3) := by decide +kernel
theorem dX12_checked_11 : decode cX12_checked 11 = .ok (.iconst 3, 1) := by decide +kernel
theorem dX12_checked_12 : decode cX12_checked 12 = .ok (.iload_n 2, 1) := by decide +kernel
theorem dX12_checked_13 : decode cX12_checked 13 = .ok (.imul, 1) := by decide +kernel
theorem dX12_checked_14 : decode cX12_checked 14 = .ok (.aload_n 0, 1) := by decide +kernel
theorem dX12_checked_15 : decode cX12_checked 15 = .ok (.iload_n 3, 1) := by decide +kernel
theorem dX12_checked_16 : decode cX12_checked 16 = .ok (.iaload, 1) := by decide +kernel
theorem dX12_checked_17 : decode cX12_checked 17 = .ok (.iadd, 1) := by decide +kernel
theorem dX12_checked_18 : decode cX12_checked 18 = .ok (.sipush 251, 3) := by decide +kernel
theorem dX12_checked_21 : decode cX12_checked 21 = .ok (.irem, 1) := by decide +kernel
theorem dX12_checked_22 : decode cX12_checked 22 = .ok (.istore_n 2, 1) := by decide +kernel
theorem dX12_checked_23 : decode cX12_checked 23 = .ok (.iinc 3 1, 3) := by decide +kernel
theorem dX12_checked_26 : decode cX12_checked 26 = .ok (.goto (-20), 3) := by decide +kernel
theorem dX12_checked_29 : decode cX12_checked 29 = .ok (.iload_n 2, 1) := by decide +kernel
theorem dX12_checked_30 : decode cX12_checked 30 = .ok (.ireturn, 1) := by decide +kernel
theorem dX12_choiceBehind_0 : decode cX12_choiceBehind 0 = .ok (.iload_n 2, 1) := by decide +kernel
theorem dX12_choiceBehind_1 : decode cX12_choiceBehind 1 = .ok (.bipush (-2), 2) := by decide +kernel
theorem dX12_choiceBehind_3 : decode cX12_choiceBehind 3 = .ok (.if_icmp .ne 5, 3) := by decide +kernel
theorem dX12_choiceBehind_6 : decode cX12_choiceBehind 6 = .ok (.iconst (-1), 1) := by decide +kernel
theorem dX12_choiceBehind_7 : decode cX12_choiceBehind 7 = .ok (.ireturn, 1) := by decide +kernel
theorem dX12_choiceBehind_8 : decode cX12_choiceBehind 8 = .ok (.iload_n 2, 1) := by decide +kernel
theorem dX12_choiceBehind_9 : decode cX12_choiceBehind 9 = .ok (.iconst 1, 1) := by decide +kernel
theorem dX12_choiceBehind_10 : decode cX12_choiceBehind 10 = .ok (.iadd, 1) := by decide +kernel
theorem dX12_choiceBehind_11 : decode cX12_choiceBehind 11 = .ok (.istore_n 3, 1) := by decide +kernel
theorem dX12_choiceBehind_12 : decode cX12_choiceBehind 12 = .ok (.iload_n 3, 1) := by decide +kernel
theorem dX12_choiceBehind_13 : decode cX12_choiceBehind 13 = .ok (.bipush 8, 2) := by decide +kernel
theorem dX12_choiceBehind_15 : decode cX12_choiceBehind 15 = .ok (.aload_n 0, 1) := by decide +kernel
theorem dX12_choiceBehind_16 : decode cX12_choiceBehind 16 = .ok (.getfield 142, 3) := by decide +kernel
theorem dX12_choiceBehind_19 : decode cX12_choiceBehind 19 = .ok (.iload_n 1, 1) := by decide +kernel
theorem dX12_choiceBehind_20 : decode cX12_choiceBehind 20 = .ok (.iaload, 1) := by decide +kernel
theorem dX12_choiceBehind_21 : decode cX12_choiceBehind 21 = .ok (.invokestatic 468, 3) := by decide +kernel
theorem dX12_choiceBehind_24 : decode cX12_choiceBehind 24 = .ok (.if_icmp .ge 30, 3) := by decide +kernel
theorem dX12_choiceBehind_27 : decode cX12_choiceBehind 27 = .ok (.aload_n 0, 1) := by decide +kernel
theorem dX12_choiceBehind_28 : decode cX12_choiceBehind 28 = .ok (.aload_n 0, 1) := by decide +kernel
theorem dX12_choiceBehind_29 : decode cX12_choiceBehind 29 = .ok (.getfield 139, 3) := by decide +kernel
theorem dX12_choiceBehind_32 : decode cX12_choiceBehind 32 = .ok (.sipush 2000, 3) := by decide +kernel
theorem dX12_choiceBehind_35 : decode cX12_choiceBehind 35 = .ok (.iload_n 1, 1) := by decide +kernel
theorem dX12_choiceBehind_36 : decode cX12_choiceBehind 36 = .ok (.imul, 1) := by decide +kernel
theorem dX12_choiceBehind_37 : decode cX12_choiceBehind 37 = .ok (.iload_n 3, 1) := by decide +kernel
theorem dX12_choiceBehind_38 : decode cX12_choiceBehind 38 = .ok (.iadd, 1) := by decide +kernel
theorem dX12_choiceBehind_39 : decode cX12_choiceBehind 39 = .ok (.iaload, 1) := by decide +kernel
theorem dX12_choiceBehind_40 : decode cX12_choiceBehind 40 = .ok (.invokevirtual 450, 3) := by decide +kernel
theorem dX12_choiceBehind_43 : decode cX12_choiceBehind 43 = .ok (.ifCond .eq 5, 3) := by decide +kernel
theorem dX12_choiceBehind_46 : decode cX12_choiceBehind 46 = .ok (.iload_n 3, 1) := by decide +kernel
theorem dX12_choiceBehind_47 : decode cX12_choiceBehind 47 = .ok (.ireturn, 1) := by decide +kernel
theorem dX12_choiceBehind_48 : decode cX12_choiceBehind 48 = .ok (.iinc 3 1, 3) := by decide +kernel
theorem dX12_choiceBehind_51 : decode cX12_choiceBehind 51 = .ok (.goto (-39), 3) := by decide +kernel
theorem dX12_choiceBehind_54 : decode cX12_choiceBehind 54 = .ok (.bipush (-2), 2) := by decide +kernel
theorem dX12_choiceBehind_56 : decode cX12_choiceBehind 56 = .ok (.ireturn, 1) := by decide +kernel
theorem dX12_codesTold_0 : decode cX12_codesTold 0 = .ok (.aload_n 0, 1) := by decide +kernel
theorem dX12_codesTold_1 : decode cX12_codesTold 1 = .ok (.getfield 257, 3) := by decide +kernel
theorem dX12_codesTold_4 : decode cX12_codesTold 4 = .ok (.ifCond .ne 19, 3) := by decide +kernel
theorem dX12_codesTold_7 : decode cX12_codesTold 7 = .ok (.aload_n 0, 1) := by decide +kernel
theorem dX12_codesTold_8 : decode cX12_codesTold 8 = .ok (.getfield 118, 3) := by decide +kernel
theorem dX12_codesTold_11 : decode cX12_codesTold 11 = .ok (.iload_n 1, 1) := by decide +kernel
theorem dX12_codesTold_12 : decode cX12_codesTold 12 = .ok (.iaload, 1) := by decide +kernel
theorem dX12_codesTold_13 : decode cX12_codesTold 13 = .ok (.iconst (-1), 1) := by decide +kernel
theorem dX12_codesTold_14 : decode cX12_codesTold 14 = .ok (.if_icmp .eq 9, 3) := by decide +kernel
theorem dX12_codesTold_17 : decode cX12_codesTold 17 = .ok (.aload_n 0, 1) := by decide +kernel
theorem dX12_codesTold_18 : decode cX12_codesTold 18 = .ok (.iconst 5, 1) := by decide +kernel
theorem dX12_codesTold_19 : decode cX12_codesTold 19 = .ok (.iload_n 2, 1) := by decide +kernel
theorem dX12_codesTold_20 : decode cX12_codesTold 20 = .ok (.invokevirtual 287, 3) := by decide +kernel
theorem dX12_codesTold_23 : decode cX12_codesTold 23 = .ok (.aload_n 0, 1) := by decide +kernel
theorem dX12_codesTold_24 : decode cX12_codesTold 24 = .ok (.getfield 257, 3) := by decide +kernel
theorem dX12_codesTold_27 : decode cX12_codesTold 27 = .ok (.ifCond .eq 4, 3) := by decide +kernel
theorem dX12_codesTold_30 : decode cX12_codesTold 30 = .ok (.return_, 1) := by decide +kernel
theorem dX12_codesTold_31 : decode cX12_codesTold 31 = .ok (.aload_n 0, 1) := by decide +kernel
theorem dX12_codesTold_32 : decode cX12_codesTold 32 = .ok (.iload_n 1, 1) := by decide +kernel
theorem dX12_codesTold_33 : decode cX12_codesTold 33 = .ok (.putfield 315, 3) := by decide +kernel
theorem dX12_codesTold_36 : decode cX12_codesTold 36 = .ok (.aload_n 0, 1) := by decide +kernel
theorem dX12_codesTold_37 : decode cX12_codesTold 37 = .ok (.iconst 0, 1) := by decide +kernel
theorem dX12_codesTold_38 : decode cX12_codesTold 38 = .ok (.putfield 334, 3) := by decide +kernel
theorem dX12_codesTold_41 : decode cX12_codesTold 41 = .ok (.aload_n 0, 1) := by decide +kernel
theorem dX12_codesTold_42 : decode cX12_codesTold 42 = .ok (.iconst 0, 1) := by decide +kernel
theorem dX12_codesTold_43 : decode cX12_codesTold 43 = .ok (.putfield 337, 3) := by decide +kernel
theorem dX12_codesTold_46 : decode cX12_codesTold 46 = .ok (.aload_n 0, 1) := by decide +kernel
theorem dX12_codesTold_47 : decode cX12_codesTold 47 = .ok (.iconst 0, 1) := by decide +kernel
theorem dX12_codesTold_48 : decode cX12_codesTold 48 = .ok (.putfield 340, 3) := by decide +kernel
theorem dX12_codesTold_51 : decode cX12_codesTold 51 = .ok (.aload_n 0, 1) := by decide +kernel
theorem dX12_codesTold_52 : decode cX12_codesTold 52 = .ok (.iconst 0, 1) := by decide +kernel
theorem dX12_codesTold_53 : decode cX12_codesTold 53 = .ok (.putfield 343, 3) := by decide +kernel
theorem dX12_codesTold_56 : decode cX12_codesTold 56 = .ok (.iload_n 1, 1) := by decide +kernel
theorem dX12_codesTold_57 : decode cX12_codesTold 57 = .ok (.iconst 1, 1) := by decide +kernel
theorem dX12_codesTold_58 : decode cX12_codesTold 58 = .ok (.if_icmp .ne 10, 3) := by decide +kernel
theorem dX12_codesTold_61 : decode cX12_codesTold 61 = .ok (.aload_n 0, 1) := by decide +kernel
theorem dX12_codesTold_62 : decode cX12_codesTold 62 = .ok (.invokevirtual 346, 3) := by decide +kernel
theorem dX12_codesTold_65 : decode cX12_codesTold 65 = .ok (.goto 7, 3) := by decide +kernel
theorem dX12_codesTold_68 : decode cX12_codesTold 68 = .ok (.aload_n 0, 1) := by decide +kernel
theorem dX12_codesTold_69 : decode cX12_codesTold 69 = .ok (.invokevirtual 349, 3) := by decide +kernel
theorem dX12_codesTold_72 : decode cX12_codesTold 72 = .ok (.aload_n 0, 1) := by decide +kernel
theorem dX12_codesTold_73 : decode cX12_codesTold 73 = .ok (.getfield 257, 3) := by decide +kernel
theorem dX12_codesTold_76 : decode cX12_codesTold 76 = .ok (.ifCond .eq 4, 3) := by decide +kernel
theorem dX12_codesTold_79 : decode cX12_codesTold 79 = .ok (.return_, 1) := by decide +kernel
theorem dX12_codesTold_80 : decode cX12_codesTold 80 = .ok (.aload_n 0, 1) := by decide +kernel
theorem dX12_codesTold_81 : decode cX12_codesTold 81 = .ok (.getfield 118, 3) := by decide +kernel
theorem dX12_codesTold_84 : decode cX12_codesTold 84 = .ok (.iload_n 1, 1) := by decide +kernel
theorem dX12_codesTold_85 : decode cX12_codesTold 85 = .ok (.aload_n 0, 1) := by decide +kernel
theorem dX12_codesTold_86 : decode cX12_codesTold 86 = .ok (.getfield 352, 3) := by decide +kernel
theorem dX12_codesTold_89 : decode cX12_codesTold 89 = .ok (.iastore, 1) := by decide +kernel
theorem dX12_codesTold_90 : decode cX12_codesTold 90 = .ok (.iconst 0, 1) := by decide +kernel
theorem dX12_codesTold_91 : decode cX12_codesTold 91 = .ok (.istore_n 3, 1) := by decide +kernel
theorem dX12_codesTold_92 : decode cX12_codesTold 92 = .ok (.iload_n 3, 1) := by decide +kernel
theorem dX12_codesTold_93 : decode cX12_codesTold 93 = .ok (.aload_n 0, 1) := by decide +kernel
theorem dX12_codesTold_94 : decode cX12_codesTold 94 = .ok (.getfield 334, 3) := by decide +kernel
theorem dX12_codesTold_97 : decode cX12_codesTold 97 = .ok (.if_icmp .ge 34, 3) := by decide +kernel
theorem dX12_codesTold_100 : decode cX12_codesTold 100 = .ok (.aload_n 0, 1) := by decide +kernel
theorem dX12_codesTold_101 : decode cX12_codesTold 101 = .ok (.getfield 124, 3) := by decide +kernel
theorem dX12_codesTold_104 : decode cX12_codesTold 104 = .ok (.aload_n 0, 1) := by decide +kernel
theorem dX12_codesTold_105 : decode cX12_codesTold 105 = .ok (.getfield 352, 3) := by decide +kernel
theorem dX12_codesTold_108 : decode cX12_codesTold 108 = .ok (.aload_n 0, 1) := by decide +kernel
theorem dX12_codesTold_109 : decode cX12_codesTold 109 = .ok (.getfield 242, 3) := by decide +kernel
theorem dX12_codesTold_112 : decode cX12_codesTold 112 = .ok (.iload_n 3, 1) := by decide +kernel
theorem dX12_codesTold_113 : decode cX12_codesTold 113 = .ok (.iaload, 1) := by decide +kernel
theorem dX12_codesTold_114 : decode cX12_codesTold 114 = .ok (.iastore, 1) := by decide +kernel
theorem dX12_codesTold_115 : decode cX12_codesTold 115 = .ok (.aload_n 0, 1) := by decide +kernel
theorem dX12_codesTold_116 : decode cX12_codesTold 116 = .ok (.dup, 1) := by decide +kernel
theorem dX12_codesTold_117 : decode cX12_codesTold 117 = .ok (.getfield 352, 3) := by decide +kernel
theorem dX12_codesTold_120 : decode cX12_codesTold 120 = .ok (.iconst 1, 1) := by decide +kernel
theorem dX12_codesTold_121 : decode cX12_codesTold 121 = .ok (.iadd, 1) := by decide +kernel
theorem dX12_codesTold_122 : decode cX12_codesTold 122 = .ok (.putfield 352, 3) := by decide +kernel
theorem dX12_codesTold_125 : decode cX12_codesTold 125 = .ok (.iinc 3 1, 3) := by decide +kernel
theorem dX12_codesTold_128 : decode cX12_codesTold 128 = .ok (.goto (-36), 3) := by decide +kernel
theorem dX12_codesTold_131 : decode cX12_codesTold 131 = .ok (.aload_n 0, 1) := by decide +kernel
theorem dX12_codesTold_132 : decode cX12_codesTold 132 = .ok (.getfield 121, 3) := by decide +kernel
theorem dX12_codesTold_135 : decode cX12_codesTold 135 = .ok (.iload_n 1, 1) := by decide +kernel
theorem dX12_codesTold_136 : decode cX12_codesTold 136 = .ok (.aload_n 0, 1) := by decide +kernel
theorem dX12_codesTold_137 : decode cX12_codesTold 137 = .ok (.getfield 352, 3) := by decide +kernel
theorem dX12_codesTold_140 : decode cX12_codesTold 140 = .ok (.iastore, 1) := by decide +kernel
theorem dX12_codesTold_141 : decode cX12_codesTold 141 = .ok (.return_, 1) := by decide +kernel
theorem dX12_common_0 : decode cX12_common 0 = .ok (.lload_n 0, 1) := by decide +kernel
theorem dX12_common_1 : decode cX12_common 1 = .ok (.lstore 4, 2) := by decide +kernel
theorem dX12_common_3 : decode cX12_common 3 = .ok (.lload_n 2, 1) := by decide +kernel
theorem dX12_common_4 : decode cX12_common 4 = .ok (.lstore 6, 2) := by decide +kernel
theorem dX12_common_6 : decode cX12_common 6 = .ok (.lload 6, 2) := by decide +kernel
theorem dX12_common_8 : decode cX12_common 8 = .ok (.lconst 0, 1) := by decide +kernel
theorem dX12_common_9 : decode cX12_common 9 = .ok (.lcmp, 1) := by decide +kernel
theorem dX12_common_10 : decode cX12_common 10 = .ok (.ifCond .eq 21, 3) := by decide +kernel
theorem dX12_common_13 : decode cX12_common 13 = .ok (.lload 4, 2) := by decide +kernel
theorem dX12_common_15 : decode cX12_common 15 = .ok (.lload 6, 2) := by decide +kernel
theorem dX12_common_17 : decode cX12_common 17 = .ok (.lrem, 1) := by decide +kernel
theorem dX12_common_18 : decode cX12_common 18 = .ok (.lstore 8, 2) := by decide +kernel
theorem dX12_common_20 : decode cX12_common 20 = .ok (.lload 6, 2) := by decide +kernel
theorem dX12_common_22 : decode cX12_common 22 = .ok (.lstore 4, 2) := by decide +kernel
theorem dX12_common_24 : decode cX12_common 24 = .ok (.lload 8, 2) := by decide +kernel
theorem dX12_common_26 : decode cX12_common 26 = .ok (.lstore 6, 2) := by decide +kernel
theorem dX12_common_28 : decode cX12_common 28 = .ok (.goto (-22), 3) := by decide +kernel
theorem dX12_common_31 : decode cX12_common 31 = .ok (.lload 4, 2) := by decide +kernel
theorem dX12_common_33 : decode cX12_common 33 = .ok (.lreturn, 1) := by decide +kernel
theorem dX12_cut_0 : decode cX12_cut 0 = .ok (.aload_n 0, 1) := by decide +kernel
theorem dX12_cut_1 : decode cX12_cut 1 = .ok (.getfield 383, 3) := by decide +kernel
theorem dX12_cut_4 : decode cX12_cut 4 = .ok (.ifCond .eq 42, 3) := by decide +kernel
theorem dX12_cut_7 : decode cX12_cut 7 = .ok (.iload_n 1, 1) := by decide +kernel
theorem dX12_cut_8 : decode cX12_cut 8 = .ok (.i2l, 1) := by decide +kernel
theorem dX12_cut_9 : decode cX12_cut 9 = .ok (.ldc2_w 514, 3) := by decide +kernel
theorem dX12_cut_12 : decode cX12_cut 12 = .ok (.aload_n 0, 1) := by decide +kernel
theorem dX12_cut_13 : decode cX12_cut 13 = .ok (.invokevirtual 396, 3) := by decide +kernel
theorem dX12_cut_16 : decode cX12_cut 16 = .ok (.i2l, 1) := by decide +kernel
theorem dX12_cut_17 : decode cX12_cut 17 = .ok (.invokestatic 300, 3) := by decide +kernel
theorem dX12_cut_20 : decode cX12_cut 20 = .ok (.ifCond .eq 26, 3) := by decide +kernel
theorem dX12_cut_23 : decode cX12_cut 23 = .ok (.aload_n 0, 1) := by decide +kernel
theorem dX12_cut_24 : decode cX12_cut 24 = .ok (.getfield 127, 3) := by decide +kernel
theorem dX12_cut_27 : decode cX12_cut 27 = .ok (.iconst 1, 1) := by decide +kernel
theorem dX12_cut_28 : decode cX12_cut 28 = .ok (.iaload, 1) := by decide +kernel
theorem dX12_cut_29 : decode cX12_cut 29 = .ok (.ifCond .eq 17, 3) := by decide +kernel
theorem dX12_cut_32 : decode cX12_cut 32 = .ok (.aload_n 0, 1) := by decide +kernel
theorem dX12_cut_33 : decode cX12_cut 33 = .ok (.getfield 127, 3) := by decide +kernel
theorem dX12_cut_36 : decode cX12_cut 36 = .ok (.iload_n 1, 1) := by decide +kernel
theorem dX12_cut_37 : decode cX12_cut 37 = .ok (.iaload, 1) := by decide +kernel
theorem dX12_cut_38 : decode cX12_cut 38 = .ok (.iload_n 1, 1) := by decide +kernel
theorem dX12_cut_39 : decode cX12_cut 39 = .ok (.iadd, 1) := by decide +kernel
theorem dX12_cut_40 : decode cX12_cut 40 = .ok (.sipush 999, 3) := by decide +kernel
theorem dX12_cut_43 : decode cX12_cut 43 = .ok (.if_icmp .le 9, 3) := by decide +kernel
theorem dX12_cut_46 : decode cX12_cut 46 = .ok (.aload_n 0, 1) := by decide +kernel
theorem dX12_cut_47 : decode cX12_cut 47 = .ok (.iconst 2, 1) := by decide +kernel
theorem dX12_cut_48 : decode cX12_cut 48 = .ok (.invokevirtual 376, 3) := by decide +kernel
theorem dX12_cut_51 : decode cX12_cut 51 = .ok (.ireturn, 1) := by decide +kernel
theorem dX12_cut_52 : decode cX12_cut 52 = .ok (.aload_n 0, 1) := by decide +kernel
theorem dX12_cut_53 : decode cX12_cut 53 = .ok (.invokevirtual 593, 3) := by decide +kernel
theorem dX12_cut_56 : decode cX12_cut 56 = .ok (.aload_n 0, 1) := by decide +kernel
theorem dX12_cut_57 : decode cX12_cut 57 = .ok (.getfield 127, 3) := by decide +kernel
theorem dX12_cut_60 : decode cX12_cut 60 = .ok (.iconst 1, 1) := by decide +kernel
theorem dX12_cut_61 : decode cX12_cut 61 = .ok (.dup2, 1) := by decide +kernel
theorem dX12_cut_62 : decode cX12_cut 62 = .ok (.iaload, 1) := by decide +kernel
theorem dX12_cut_63 : decode cX12_cut 63 = .ok (.iconst 1, 1) := by decide +kernel
theorem dX12_cut_64 : decode cX12_cut 64 = .ok (.isub, 1) := by decide +kernel
theorem dX12_cut_65 : decode cX12_cut 65 = .ok (.iastore, 1) := by decide +kernel
theorem dX12_cut_66 : decode cX12_cut 66 = .ok (.aload_n 0, 1) := by decide +kernel
theorem dX12_cut_67 : decode cX12_cut 67 = .ok (.getfield 127, 3) := by decide +kernel
theorem dX12_cut_70 : decode cX12_cut 70 = .ok (.iload_n 1, 1) := by decide +kernel
theorem dX12_cut_71 : decode cX12_cut 71 = .ok (.dup2, 1) := by decide +kernel
theorem dX12_cut_72 : decode cX12_cut 72 = .ok (.iaload, 1) := by decide +kernel
theorem dX12_cut_73 : decode cX12_cut 73 = .ok (.iload_n 1, 1) := by decide +kernel
theorem dX12_cut_74 : decode cX12_cut 74 = .ok (.iadd, 1) := by decide +kernel
theorem dX12_cut_75 : decode cX12_cut 75 = .ok (.iastore, 1) := by decide +kernel
theorem dX12_cut_76 : decode cX12_cut 76 = .ok (.aload_n 0, 1) := by decide +kernel
theorem dX12_cut_77 : decode cX12_cut 77 = .ok (.getfield 127, 3) := by decide +kernel
theorem dX12_cut_80 : decode cX12_cut 80 = .ok (.iload_n 1, 1) := by decide +kernel
theorem dX12_cut_81 : decode cX12_cut 81 = .ok (.iaload, 1) := by decide +kernel
theorem dX12_cut_82 : decode cX12_cut 82 = .ok (.ireturn, 1) := by decide +kernel
theorem dX12_putsAside_0 : decode cX12_putsAside 0 = .ok (.aload_n 0, 1) := by decide +kernel
theorem dX12_putsAside_1 : decode cX12_putsAside 1 = .ok (.iconst 1, 1) := by decide +kernel
theorem dX12_putsAside_2 : decode cX12_putsAside 2 = .ok (.putfield 459, 3) := by decide +kernel
theorem dX12_putsAside_5 : decode cX12_putsAside 5 = .ok (.iconst 0, 1) := by decide +kernel
theorem dX12_putsAside_6 : decode cX12_putsAside 6 = .ok (.istore_n 1, 1) := by decide +kernel
theorem dX12_putsAside_7 : decode cX12_putsAside 7 = .ok (.iload_n 1, 1) := by decide +kernel
theorem dX12_putsAside_8 : decode cX12_putsAside 8 = .ok (.bipush 37, 2) := by decide +kernel
theorem dX12_putsAside_10 : decode cX12_putsAside 10 = .ok (.if_icmp .ge 21, 3) := by decide +kernel
theorem dX12_putsAside_13 : decode cX12_putsAside 13 = .ok (.aload_n 0, 1) := by decide +kernel
theorem dX12_putsAside_14 : decode cX12_putsAside 14 = .ok (.getfield 148, 3) := by decide +kernel
theorem dX12_putsAside_17 : decode cX12_putsAside 17 = .ok (.iload_n 1, 1) := by decide +kernel
theorem dX12_putsAside_18 : decode cX12_putsAside 18 = .ok (.aload_n 0, 1) := by decide +kernel
theorem dX12_putsAside_19 : decode cX12_putsAside 19 = .ok (.getfield 127, 3) := by decide +kernel
theorem dX12_putsAside_22 : decode cX12_putsAside 22 = .ok (.iload_n 1, 1) := by decide +kernel
theorem dX12_putsAside_23 : decode cX12_putsAside 23 = .ok (.iaload, 1) := by decide +kernel
theorem dX12_putsAside_24 : decode cX12_putsAside 24 = .ok (.iastore, 1) := by decide +kernel
theorem dX12_putsAside_25 : decode cX12_putsAside 25 = .ok (.iinc 1 1, 3) := by decide +kernel
theorem dX12_putsAside_28 : decode cX12_putsAside 28 = .ok (.goto (-21), 3) := by decide +kernel
theorem dX12_putsAside_31 : decode cX12_putsAside 31 = .ok (.return_, 1) := by decide +kernel
theorem dX12_triesAnew_0 : decode cX12_triesAnew 0 = .ok (.iconst 0, 1) := by decide +kernel
theorem dX12_triesAnew_1 : decode cX12_triesAnew 1 = .ok (.istore_n 1, 1) := by decide +kernel
theorem dX12_triesAnew_2 : decode cX12_triesAnew 2 = .ok (.iload_n 1, 1) := by decide +kernel
theorem dX12_triesAnew_3 : decode cX12_triesAnew 3 = .ok (.bipush 37, 2) := by decide +kernel
theorem dX12_triesAnew_5 : decode cX12_triesAnew 5 = .ok (.if_icmp .ge 21, 3) := by decide +kernel
theorem dX12_triesAnew_8 : decode cX12_triesAnew 8 = .ok (.aload_n 0, 1) := by decide +kernel
theorem dX12_triesAnew_9 : decode cX12_triesAnew 9 = .ok (.getfield 127, 3) := by decide +kernel
theorem dX12_triesAnew_12 : decode cX12_triesAnew 12 = .ok (.iload_n 1, 1) := by decide +kernel
theorem dX12_triesAnew_13 : decode cX12_triesAnew 13 = .ok (.aload_n 0, 1) := by decide +kernel
theorem dX12_triesAnew_14 : decode cX12_triesAnew 14 = .ok (.getfield 148, 3) := by decide +kernel
theorem dX12_triesAnew_17 : decode cX12_triesAnew 17 = .ok (.iload_n 1, 1) := by decide +kernel
theorem dX12_triesAnew_18 : decode cX12_triesAnew 18 = .ok (.iaload, 1) := by decide +kernel
theorem dX12_triesAnew_19 : decode cX12_triesAnew 19 = .ok (.iastore, 1) := by decide +kernel
theorem dX12_triesAnew_20 : decode cX12_triesAnew 20 = .ok (.iinc 1 1, 3) := by decide +kernel
theorem dX12_triesAnew_23 : decode cX12_triesAnew 23 = .ok (.goto (-21), 3) := by decide +kernel
theorem dX12_triesAnew_26 : decode cX12_triesAnew 26 = .ok (.return_, 1) := by decide +kernel
theorem dX12_isEnough_0 : decode cX12_isEnough 0 = .ok (.aload_n 0, 1) := by decide +kernel
theorem dX12_isEnough_1 : decode cX12_isEnough 1 = .ok (.getfield 127, 3) := by decide +kernel
theorem dX12_isEnough_4 : decode cX12_isEnough 4 = .ok (.iconst 1, 1) := by decide +kernel
theorem dX12_isEnough_5 : decode cX12_isEnough 5 = .ok (.dup2, 1) := by decide +kernel
theorem dX12_isEnough_6 : decode cX12_isEnough 6 = .ok (.iaload, 1) := by decide +kernel
theorem dX12_isEnough_7 : decode cX12_isEnough 7 = .ok (.iload_n 1, 1) := by decide +kernel
theorem dX12_isEnough_8 : decode cX12_isEnough 8 = .ok (.isub, 1) := by decide +kernel
theorem dX12_isEnough_9 : decode cX12_isEnough 9 = .ok (.iastore, 1) := by decide +kernel
theorem dX12_isEnough_10 : decode cX12_isEnough 10 = .ok (.iconst 0, 1) := by decide +kernel
theorem dX12_isEnough_11 : decode cX12_isEnough 11 = .ok (.istore_n 2, 1) := by decide +kernel
theorem dX12_isEnough_12 : decode cX12_isEnough 12 = .ok (.iload_n 2, 1) := by decide +kernel
theorem dX12_isEnough_13 : decode cX12_isEnough 13 = .ok (.iload_n 1, 1) := by decide +kernel
theorem dX12_isEnough_14 : decode cX12_isEnough 14 = .ok (.if_icmp .ge 44, 3) := by decide +kernel
theorem dX12_isEnough_17 : decode cX12_isEnough 17 = .ok (.aload_n 0, 1) := by decide +kernel
theorem dX12_isEnough_18 : decode cX12_isEnough 18 = .ok (.getfield 127, 3) := by decide +kernel
theorem dX12_isEnough_21 : decode cX12_isEnough 21 = .ok (.aload_n 0, 1) := by decide +kernel
theorem dX12_isEnough_22 : decode cX12_isEnough 22 = .ok (.getfield 133, 3) := by decide +kernel
theorem dX12_isEnough_25 : decode cX12_isEnough 25 = .ok (.iload_n 2, 1) := by decide +kernel
theorem dX12_isEnough_26 : decode cX12_isEnough 26 = .ok (.iaload, 1) := by decide +kernel
theorem dX12_isEnough_27 : decode cX12_isEnough 27 = .ok (.sipush 999, 3) := by decide +kernel
theorem dX12_isEnough_30 : decode cX12_isEnough 30 = .ok (.aload_n 0, 1) := by decide +kernel
theorem dX12_isEnough_31 : decode cX12_isEnough 31 = .ok (.getfield 127, 3) := by decide +kernel
theorem dX12_isEnough_34 : decode cX12_isEnough 34 = .ok (.aload_n 0, 1) := by decide +kernel
theorem dX12_isEnough_35 : decode cX12_isEnough 35 = .ok (.getfield 133, 3) := by decide +kernel
theorem dX12_isEnough_38 : decode cX12_isEnough 38 = .ok (.iload_n 2, 1) := by decide +kernel
theorem dX12_isEnough_39 : decode cX12_isEnough 39 = .ok (.iaload, 1) := by decide +kernel
theorem dX12_isEnough_40 : decode cX12_isEnough 40 = .ok (.iaload, 1) := by decide +kernel
theorem dX12_isEnough_41 : decode cX12_isEnough 41 = .ok (.aload_n 0, 1) := by decide +kernel
theorem dX12_isEnough_42 : decode cX12_isEnough 42 = .ok (.getfield 133, 3) := by decide +kernel
theorem dX12_isEnough_45 : decode cX12_isEnough 45 = .ok (.iload_n 2, 1) := by decide +kernel
theorem dX12_isEnough_46 : decode cX12_isEnough 46 = .ok (.iaload, 1) := by decide +kernel
theorem dX12_isEnough_47 : decode cX12_isEnough 47 = .ok (.iadd, 1) := by decide +kernel
theorem dX12_isEnough_48 : decode cX12_isEnough 48 = .ok (.invokestatic 468, 3) := by decide +kernel
theorem dX12_isEnough_51 : decode cX12_isEnough 51 = .ok (.iastore, 1) := by decide +kernel
theorem dX12_isEnough_52 : decode cX12_isEnough 52 = .ok (.iinc 2 1, 3) := by decide +kernel
theorem dX12_isEnough_55 : decode cX12_isEnough 55 = .ok (.goto (-43), 3) := by decide +kernel
theorem dX12_isEnough_58 : decode cX12_isEnough 58 = .ok (.aload_n 0, 1) := by decide +kernel
theorem dX12_isEnough_59 : decode cX12_isEnough 59 = .ok (.invokevirtual 489, 3) := by decide +kernel
theorem dX12_isEnough_62 : decode cX12_isEnough 62 = .ok (.aload_n 0, 1) := by decide +kernel
theorem dX12_isEnough_63 : decode cX12_isEnough 63 = .ok (.invokevirtual 492, 3) := by decide +kernel
theorem dX12_isEnough_66 : decode cX12_isEnough 66 = .ok (.aload_n 0, 1) := by decide +kernel
theorem dX12_isEnough_67 : decode cX12_isEnough 67 = .ok (.getfield 483, 3) := by decide +kernel
theorem dX12_isEnough_70 : decode cX12_isEnough 70 = .ok (.iconst 1, 1) := by decide +kernel
theorem dX12_isEnough_71 : decode cX12_isEnough 71 = .ok (.aload_n 0, 1) := by decide +kernel
theorem dX12_isEnough_72 : decode cX12_isEnough 72 = .ok (.invokevirtual 399, 3) := by decide +kernel
theorem dX12_isEnough_75 : decode cX12_isEnough 75 = .ok (.ishl, 1) := by decide +kernel
theorem dX12_isEnough_76 : decode cX12_isEnough 76 = .ok (.iconst 1, 1) := by decide +kernel
theorem dX12_isEnough_77 : decode cX12_isEnough 77 = .ok (.isub, 1) := by decide +kernel
theorem dX12_isEnough_78 : decode cX12_isEnough 78 = .ok (.if_icmp .ne 7, 3) := by decide +kernel
theorem dX12_isEnough_81 : decode cX12_isEnough 81 = .ok (.iconst 1, 1) := by decide +kernel
theorem dX12_isEnough_82 : decode cX12_isEnough 82 = .ok (.goto 4, 3) := by decide +kernel
theorem dX12_isEnough_85 : decode cX12_isEnough 85 = .ok (.iconst 0, 1) := by decide +kernel
theorem dX12_isEnough_86 : decode cX12_isEnough 86 = .ok (.ireturn, 1) := by decide +kernel
theorem dX12_goesOn_0 : decode cX12_goesOn 0 = .ok (.iload_n 1, 1) := by decide +kernel
theorem dX12_goesOn_1 : decode cX12_goesOn 1 = .ok (.iconst 1, 1) := by decide +kernel
theorem dX12_goesOn_2 : decode cX12_goesOn 2 = .ok (.isub, 1) := by decide +kernel
theorem dX12_goesOn_3 : decode cX12_goesOn 3 = .ok (.istore_n 2, 1) := by decide +kernel
theorem dX12_goesOn_4 : decode cX12_goesOn 4 = .ok (.iload_n 2, 1) := by decide +kernel
theorem dX12_goesOn_5 : decode cX12_goesOn 5 = .ok (.ifCond .lt 22, 3) := by decide +kernel
theorem dX12_goesOn_8 : decode cX12_goesOn 8 = .ok (.aload_n 0, 1) := by decide +kernel
theorem dX12_goesOn_9 : decode cX12_goesOn 9 = .ok (.getfield 133, 3) := by decide +kernel
theorem dX12_goesOn_12 : decode cX12_goesOn 12 = .ok (.iload_n 2, 1) := by decide +kernel
theorem dX12_goesOn_13 : decode cX12_goesOn 13 = .ok (.iaload, 1) := by decide +kernel
theorem dX12_goesOn_14 : decode cX12_goesOn 14 = .ok (.aload_n 0, 1) := by decide +kernel
theorem dX12_goesOn_15 : decode cX12_goesOn 15 = .ok (.invokevirtual 396, 3) := by decide +kernel
theorem dX12_goesOn_18 : decode cX12_goesOn 18 = .ok (.if_icmp .ne 9, 3) := by decide +kernel
theorem dX12_goesOn_21 : decode cX12_goesOn 21 = .ok (.iinc 2 (-1), 3) := by decide +kernel
theorem dX12_goesOn_24 : decode cX12_goesOn 24 = .ok (.goto (-20), 3) := by decide +kernel
theorem dX12_goesOn_27 : decode cX12_goesOn 27 = .ok (.iload_n 2, 1) := by decide +kernel
theorem dX12_goesOn_28 : decode cX12_goesOn 28 = .ok (.ifCond .ge 5, 3) := by decide +kernel
theorem dX12_goesOn_31 : decode cX12_goesOn 31 = .ok (.iconst 0, 1) := by decide +kernel
theorem dX12_goesOn_32 : decode cX12_goesOn 32 = .ok (.ireturn, 1) := by decide +kernel
theorem dX12_goesOn_33 : decode cX12_goesOn 33 = .ok (.aload_n 0, 1) := by decide +kernel
theorem dX12_goesOn_34 : decode cX12_goesOn 34 = .ok (.getfield 133, 3) := by decide +kernel
theorem dX12_goesOn_37 : decode cX12_goesOn 37 = .ok (.iload_n 2, 1) := by decide +kernel
theorem dX12_goesOn_38 : decode cX12_goesOn 38 = .ok (.dup2, 1) := by decide +kernel
theorem dX12_goesOn_39 : decode cX12_goesOn 39 = .ok (.iaload, 1) := by decide +kernel
theorem dX12_goesOn_40 : decode cX12_goesOn 40 = .ok (.iconst 1, 1) := by decide +kernel
theorem dX12_goesOn_41 : decode cX12_goesOn 41 = .ok (.iadd, 1) := by decide +kernel
theorem dX12_goesOn_42 : decode cX12_goesOn 42 = .ok (.iastore, 1) := by decide +kernel
theorem dX12_goesOn_43 : decode cX12_goesOn 43 = .ok (.iload_n 2, 1) := by decide +kernel
theorem dX12_goesOn_44 : decode cX12_goesOn 44 = .ok (.iconst 1, 1) := by decide +kernel
theorem dX12_goesOn_45 : decode cX12_goesOn 45 = .ok (.iadd, 1) := by decide +kernel
theorem dX12_goesOn_46 : decode cX12_goesOn 46 = .ok (.istore_n 3, 1) := by decide +kernel
theorem dX12_goesOn_47 : decode cX12_goesOn 47 = .ok (.iload_n 3, 1) := by decide +kernel
theorem dX12_goesOn_48 : decode cX12_goesOn 48 = .ok (.iload_n 1, 1) := by decide +kernel
theorem dX12_goesOn_49 : decode cX12_goesOn 49 = .ok (.if_icmp .ge 21, 3) := by decide +kernel
theorem dX12_goesOn_52 : decode cX12_goesOn 52 = .ok (.aload_n 0, 1) := by decide +kernel
theorem dX12_goesOn_53 : decode cX12_goesOn 53 = .ok (.getfield 133, 3) := by decide +kernel
theorem dX12_goesOn_56 : decode cX12_goesOn 56 = .ok (.iload_n 3, 1) := by decide +kernel
theorem dX12_goesOn_57 : decode cX12_goesOn 57 = .ok (.aload_n 0, 1) := by decide +kernel
theorem dX12_goesOn_58 : decode cX12_goesOn 58 = .ok (.getfield 133, 3) := by decide +kernel
theorem dX12_goesOn_61 : decode cX12_goesOn 61 = .ok (.iload_n 2, 1) := by decide +kernel
theorem dX12_goesOn_62 : decode cX12_goesOn 62 = .ok (.iaload, 1) := by decide +kernel
theorem dX12_goesOn_63 : decode cX12_goesOn 63 = .ok (.iastore, 1) := by decide +kernel
theorem dX12_goesOn_64 : decode cX12_goesOn 64 = .ok (.iinc 3 1, 3) := by decide +kernel
theorem dX12_goesOn_67 : decode cX12_goesOn 67 = .ok (.goto (-20), 3) := by decide +kernel
theorem dX12_goesOn_70 : decode cX12_goesOn 70 = .ok (.iconst 1, 1) := by decide +kernel
theorem dX12_goesOn_71 : decode cX12_goesOn 71 = .ok (.ireturn, 1) := by decide +kernel
theorem dX12_isFoundBy_0 : decode cX12_isFoundBy 0 = .ok (.iconst 0, 1) := by decide +kernel
theorem dX12_isFoundBy_1 : decode cX12_isFoundBy 1 = .ok (.istore_n 2, 1) := by decide +kernel
theorem dX12_isFoundBy_2 : decode cX12_isFoundBy 2 = .ok (.iload_n 2, 1) := by decide +kernel
theorem dX12_isFoundBy_3 : decode cX12_isFoundBy 3 = .ok (.iload_n 1, 1) := by decide +kernel
theorem dX12_isFoundBy_4 : decode cX12_isFoundBy 4 = .ok (.if_icmp .ge 16, 3) := by decide +kernel
theorem dX12_isFoundBy_7 : decode cX12_isFoundBy 7 = .ok (.aload_n 0, 1) := by decide +kernel
theorem dX12_isFoundBy_8 : decode cX12_isFoundBy 8 = .ok (.getfield 133, 3) := by decide +kernel
theorem dX12_isFoundBy_11 : decode cX12_isFoundBy 11 = .ok (.iload_n 2, 1) := by decide +kernel
theorem dX12_isFoundBy_12 : decode cX12_isFoundBy 12 = .ok (.iconst 2, 1) := by decide +kernel
theorem dX12_isFoundBy_13 : decode cX12_isFoundBy 13 = .ok (.iastore, 1) := by decide +kernel
theorem dX12_isFoundBy_14 : decode cX12_isFoundBy 14 = .ok (.iinc 2 1, 3) := by decide +kernel
theorem dX12_isFoundBy_17 : decode cX12_isFoundBy 17 = .ok (.goto (-15), 3) := by decide +kernel
theorem dX12_isFoundBy_20 : decode cX12_isFoundBy 20 = .ok (.iconst 1, 1) := by decide +kernel
theorem dX12_isFoundBy_21 : decode cX12_isFoundBy 21 = .ok (.istore_n 2, 1) := by decide +kernel
theorem dX12_isFoundBy_22 : decode cX12_isFoundBy 22 = .ok (.iload_n 2, 1) := by decide +kernel
theorem dX12_isFoundBy_23 : decode cX12_isFoundBy 23 = .ok (.ifCond .eq 22, 3) := by decide +kernel
theorem dX12_isFoundBy_26 : decode cX12_isFoundBy 26 = .ok (.aload_n 0, 1) := by decide +kernel
theorem dX12_isFoundBy_27 : decode cX12_isFoundBy 27 = .ok (.iload_n 1, 1) := by decide +kernel
theorem dX12_isFoundBy_28 : decode cX12_isFoundBy 28 = .ok (.invokevirtual 558, 3) := by decide +kernel
theorem dX12_isFoundBy_31 : decode cX12_isFoundBy 31 = .ok (.ifCond .eq 5, 3) := by decide +kernel
theorem dX12_isFoundBy_34 : decode cX12_isFoundBy 34 = .ok (.iconst 1, 1) := by decide +kernel
theorem dX12_isFoundBy_35 : decode cX12_isFoundBy 35 = .ok (.ireturn, 1) := by decide +kernel
theorem dX12_isFoundBy_36 : decode cX12_isFoundBy 36 = .ok (.aload_n 0, 1) := by decide +kernel
theorem dX12_isFoundBy_37 : decode cX12_isFoundBy 37 = .ok (.iload_n 1, 1) := by decide +kernel
theorem dX12_isFoundBy_38 : decode cX12_isFoundBy 38 = .ok (.invokevirtual 561, 3) := by decide +kernel
theorem dX12_isFoundBy_41 : decode cX12_isFoundBy 41 = .ok (.istore_n 2, 1) := by decide +kernel
theorem dX12_isFoundBy_42 : decode cX12_isFoundBy 42 = .ok (.goto (-20), 3) := by decide +kernel
theorem dX12_isFoundBy_45 : decode cX12_isFoundBy 45 = .ok (.iconst 0, 1) := by decide +kernel
theorem dX12_isFoundBy_46 : decode cX12_isFoundBy 46 = .ok (.ireturn, 1) := by decide +kernel
theorem dX12_takesBack_0 : decode cX12_takesBack 0 = .ok (.aload_n 0, 1) := by decide +kernel
theorem dX12_takesBack_1 : decode cX12_takesBack 1 = .ok (.invokevirtual 492, 3) := by decide +kernel
theorem dX12_takesBack_4 : decode cX12_takesBack 4 = .ok (.aload_n 0, 1) := by decide +kernel
theorem dX12_takesBack_5 : decode cX12_takesBack 5 = .ok (.iconst 0, 1) := by decide +kernel
theorem dX12_takesBack_6 : decode cX12_takesBack 6 = .ok (.putfield 459, 3) := by decide +kernel
theorem dX12_takesBack_9 : decode cX12_takesBack 9 = .ok (.return_, 1) := by decide +kernel
theorem dX12_cuts_0 : decode cX12_cuts 0 = .ok (.aload_n 0, 1) := by decide +kernel
theorem dX12_cuts_1 : decode cX12_cuts 1 = .ok (.iconst 1, 1) := by decide +kernel
theorem dX12_cuts_2 : decode cX12_cuts 2 = .ok (.iconst 1, 1) := by decide +kernel
theorem dX12_cuts_3 : decode cX12_cuts 3 = .ok (.iconst 1, 1) := by decide +kernel
theorem dX12_cuts_4 : decode cX12_cuts 4 = .ok (.invokevirtual 545, 3) := by decide +kernel
theorem dX12_cuts_7 : decode cX12_cuts 7 = .ok (.ifCond .eq 17, 3) := by decide +kernel
theorem dX12_cuts_10 : decode cX12_cuts 10 = .ok (.iload_n 1, 1) := by decide +kernel
theorem dX12_cuts_11 : decode cX12_cuts 11 = .ok (.i2l, 1) := by decide +kernel
theorem dX12_cuts_12 : decode cX12_cuts 12 = .ok (.ldc2_w 564, 3) := by decide +kernel
theorem dX12_cuts_15 : decode cX12_cuts 15 = .ok (.ldc2_w 514, 3) := by decide +kernel
theorem dX12_cuts_18 : decode cX12_cuts 18 = .ok (.invokestatic 300, 3) := by decide +kernel
theorem dX12_cuts_21 : decode cX12_cuts 21 = .ok (.ifCond .ne 5, 3) := by decide +kernel
theorem dX12_cuts_24 : decode cX12_cuts 24 = .ok (.iconst (-1), 1) := by decide +kernel
theorem dX12_cuts_25 : decode cX12_cuts 25 = .ok (.ireturn, 1) := by decide +kernel
theorem dX12_cuts_26 : decode cX12_cuts 26 = .ok (.iconst (-1), 1) := by decide +kernel
theorem dX12_cuts_27 : decode cX12_cuts 27 = .ok (.istore_n 2, 1) := by decide +kernel
theorem dX12_cuts_28 : decode cX12_cuts 28 = .ok (.aload_n 0, 1) := by decide +kernel
theorem dX12_cuts_29 : decode cX12_cuts 29 = .ok (.invokevirtual 549, 3) := by decide +kernel
theorem dX12_cuts_32 : decode cX12_cuts 32 = .ok (.iconst 0, 1) := by decide +kernel
theorem dX12_cuts_33 : decode cX12_cuts 33 = .ok (.istore_n 3, 1) := by decide +kernel
theorem dX12_cuts_34 : decode cX12_cuts 34 = .ok (.iload_n 3, 1) := by decide +kernel
theorem dX12_cuts_35 : decode cX12_cuts 35 = .ok (.iconst 3, 1) := by decide +kernel
theorem dX12_cuts_36 : decode cX12_cuts 36 = .ok (.aload_n 0, 1) := by decide +kernel
theorem dX12_cuts_37 : decode cX12_cuts 37 = .ok (.getfield 148, 3) := by decide +kernel
theorem dX12_cuts_40 : decode cX12_cuts 40 = .ok (.iconst 1, 1) := by decide +kernel
theorem dX12_cuts_41 : decode cX12_cuts 41 = .ok (.iaload, 1) := by decide +kernel
theorem dX12_cuts_42 : decode cX12_cuts 42 = .ok (.invokestatic 468, 3) := by decide +kernel
theorem dX12_cuts_45 : decode cX12_cuts 45 = .ok (.if_icmp .gt 24, 3) := by decide +kernel
theorem dX12_cuts_48 : decode cX12_cuts 48 = .ok (.iload_n 2, 1) := by decide +kernel
theorem dX12_cuts_49 : decode cX12_cuts 49 = .ok (.iconst (-1), 1) := by decide +kernel
theorem dX12_cuts_50 : decode cX12_cuts 50 = .ok (.if_icmp .ne 19, 3) := by decide +kernel
theorem dX12_cuts_53 : decode cX12_cuts 53 = .ok (.aload_n 0, 1) := by decide +kernel
theorem dX12_cuts_54 : decode cX12_cuts 54 = .ok (.iload_n 3, 1) := by decide +kernel
theorem dX12_cuts_55 : decode cX12_cuts 55 = .ok (.invokevirtual 566, 3) := by decide +kernel
theorem dX12_cuts_58 : decode cX12_cuts 58 = .ok (.ifCond .eq 5, 3) := by decide +kernel
theorem dX12_cuts_61 : decode cX12_cuts 61 = .ok (.iload_n 3, 1) := by decide +kernel
theorem dX12_cuts_62 : decode cX12_cuts 62 = .ok (.istore_n 2, 1) := by decide +kernel
theorem dX12_cuts_63 : decode cX12_cuts 63 = .ok (.iinc 3 1, 3) := by decide +kernel
theorem dX12_cuts_66 : decode cX12_cuts 66 = .ok (.goto (-32), 3) := by decide +kernel
theorem dX12_cuts_69 : decode cX12_cuts 69 = .ok (.aload_n 0, 1) := by decide +kernel
theorem dX12_cuts_70 : decode cX12_cuts 70 = .ok (.invokevirtual 555, 3) := by decide +kernel
theorem dX12_cuts_73 : decode cX12_cuts 73 = .ok (.iload_n 1, 1) := by decide +kernel
theorem dX12_cuts_74 : decode cX12_cuts 74 = .ok (.iconst (-1), 1) := by decide +kernel
theorem dX12_cuts_75 : decode cX12_cuts 75 = .ok (.if_icmp .ne 7, 3) := by decide +kernel
theorem dX12_cuts_78 : decode cX12_cuts 78 = .ok (.iload_n 2, 1) := by decide +kernel
theorem dX12_cuts_79 : decode cX12_cuts 79 = .ok (.goto 18, 3) := by decide +kernel
theorem dX12_cuts_82 : decode cX12_cuts 82 = .ok (.iload_n 1, 1) := by decide +kernel
theorem dX12_cuts_83 : decode cX12_cuts 83 = .ok (.iload_n 2, 1) := by decide +kernel
theorem dX12_cuts_84 : decode cX12_cuts 84 = .ok (.if_icmp .ge 12, 3) := by decide +kernel
theorem dX12_cuts_87 : decode cX12_cuts 87 = .ok (.aload_n 0, 1) := by decide +kernel
theorem dX12_cuts_88 : decode cX12_cuts 88 = .ok (.getfield 133, 3) := by decide +kernel
theorem dX12_cuts_91 : decode cX12_cuts 91 = .ok (.iload_n 1, 1) := by decide +kernel
theorem dX12_cuts_92 : decode cX12_cuts 92 = .ok (.iaload, 1) := by decide +kernel
theorem dX12_cuts_93 : decode cX12_cuts 93 = .ok (.goto 4, 3) := by decide +kernel
theorem dX12_cuts_96 : decode cX12_cuts 96 = .ok (.iconst (-1), 1) := by decide +kernel
theorem dX12_cuts_97 : decode cX12_cuts 97 = .ok (.ireturn, 1) := by decide +kernel
theorem dX12_daysGo_0 : decode cX12_daysGo 0 = .ok (.aload_n 0, 1) := by decide +kernel
theorem dX12_daysGo_1 : decode cX12_daysGo 1 = .ok (.iconst 0, 1) := by decide +kernel
theorem dX12_daysGo_2 : decode cX12_daysGo 2 = .ok (.putfield 480, 3) := by decide +kernel
theorem dX12_daysGo_5 : decode cX12_daysGo 5 = .ok (.iconst 0, 1) := by decide +kernel
theorem dX12_daysGo_6 : decode cX12_daysGo 6 = .ok (.istore_n 2, 1) := by decide +kernel
theorem dX12_daysGo_7 : decode cX12_daysGo 7 = .ok (.iload_n 2, 1) := by decide +kernel
theorem dX12_daysGo_8 : decode cX12_daysGo 8 = .ok (.iload_n 1, 1) := by decide +kernel
theorem dX12_daysGo_9 : decode cX12_daysGo 9 = .ok (.if_icmp .ge 13, 3) := by decide +kernel
theorem dX12_daysGo_12 : decode cX12_daysGo 12 = .ok (.aload_n 0, 1) := by decide +kernel
theorem dX12_daysGo_13 : decode cX12_daysGo 13 = .ok (.invokevirtual 489, 3) := by decide +kernel
theorem dX12_daysGo_16 : decode cX12_daysGo 16 = .ok (.iinc 2 1, 3) := by decide +kernel
theorem dX12_daysGo_19 : decode cX12_daysGo 19 = .ok (.goto (-12), 3) := by decide +kernel
theorem dX12_daysGo_22 : decode cX12_daysGo 22 = .ok (.return_, 1) := by decide +kernel
theorem dX12_days_0 : decode cX12_days 0 = .ok (.aload_n 0, 1) := by decide +kernel
theorem dX12_days_1 : decode cX12_days 1 = .ok (.iload_n 1, 1) := by decide +kernel
theorem dX12_days_2 : decode cX12_days 2 = .ok (.iconst 1, 1) := by decide +kernel
theorem dX12_days_3 : decode cX12_days 3 = .ok (.bipush 100, 2) := by decide +kernel
theorem dX12_days_5 : decode cX12_days 5 = .ok (.invokevirtual 545, 3) := by decide +kernel
theorem dX12_days_8 : decode cX12_days 8 = .ok (.ifCond .ne 9, 3) := by decide +kernel
theorem dX12_days_11 : decode cX12_days 11 = .ok (.aload_n 0, 1) := by decide +kernel
theorem dX12_days_12 : decode cX12_days 12 = .ok (.iconst 3, 1) := by decide +kernel
theorem dX12_days_13 : decode cX12_days 13 = .ok (.invokevirtual 376, 3) := by decide +kernel
theorem dX12_days_16 : decode cX12_days 16 = .ok (.ireturn, 1) := by decide +kernel
theorem dX12_days_17 : decode cX12_days 17 = .ok (.aload_n 0, 1) := by decide +kernel
theorem dX12_days_18 : decode cX12_days 18 = .ok (.invokevirtual 593, 3) := by decide +kernel
theorem dX12_days_21 : decode cX12_days 21 = .ok (.aload_n 0, 1) := by decide +kernel
theorem dX12_days_22 : decode cX12_days 22 = .ok (.iload_n 1, 1) := by decide +kernel
theorem dX12_days_23 : decode cX12_days 23 = .ok (.invokevirtual 552, 3) := by decide +kernel
theorem dX12_days_26 : decode cX12_days 26 = .ok (.aload_n 0, 1) := by decide +kernel
theorem dX12_days_27 : decode cX12_days 27 = .ok (.getfield 480, 3) := by decide +kernel
theorem dX12_days_30 : decode cX12_days 30 = .ok (.ireturn, 1) := by decide +kernel
theorem dX12_end_0 : decode cX12_end 0 = .ok (.iload_n 1, 1) := by decide +kernel
theorem dX12_end_1 : decode cX12_end 1 = .ok (.ifCond .lt 11, 3) := by decide +kernel
theorem dX12_end_4 : decode cX12_end 4 = .ok (.iload_n 1, 1) := by decide +kernel
theorem dX12_end_5 : decode cX12_end 5 = .ok (.aload_n 0, 1) := by decide +kernel
theorem dX12_end_6 : decode cX12_end 6 = .ok (.getfield 254, 3) := by decide +kernel
theorem dX12_end_9 : decode cX12_end 9 = .ok (.if_icmp .le 15, 3) := by decide +kernel
theorem dX12_end_12 : decode cX12_end 12 = .ok (.aload_n 0, 1) := by decide +kernel
theorem dX12_end_13 : decode cX12_end 13 = .ok (.getfield 17, 3) := by decide +kernel
theorem dX12_end_16 : decode cX12_end 16 = .ok (.iconst 0, 1) := by decide +kernel
theorem dX12_end_17 : decode cX12_end 17 = .ok (.dup2, 1) := by decide +kernel
theorem dX12_end_18 : decode cX12_end 18 = .ok (.iaload, 1) := by decide +kernel
theorem dX12_end_19 : decode cX12_end 19 = .ok (.iconst 1, 1) := by decide +kernel
theorem dX12_end_20 : decode cX12_end 20 = .ok (.iadd, 1) := by decide +kernel
theorem dX12_end_21 : decode cX12_end 21 = .ok (.iastore, 1) := by decide +kernel
theorem dX12_end_22 : decode cX12_end 22 = .ok (.iconst 0, 1) := by decide +kernel
theorem dX12_end_23 : decode cX12_end 23 = .ok (.ireturn, 1) := by decide +kernel
theorem dX12_end_24 : decode cX12_end 24 = .ok (.aload_n 0, 1) := by decide +kernel
theorem dX12_end_25 : decode cX12_end 25 = .ok (.iload_n 1, 1) := by decide +kernel
theorem dX12_end_26 : decode cX12_end 26 = .ok (.putfield 254, 3) := by decide +kernel
theorem dX12_end_29 : decode cX12_end 29 = .ok (.iconst 1, 1) := by decide +kernel
theorem dX12_end_30 : decode cX12_end 30 = .ok (.ireturn, 1) := by decide +kernel
theorem dX12_fault_0 : decode cX12_fault 0 = .ok (.iload_n 1, 1) := by decide +kernel
theorem dX12_fault_1 : decode cX12_fault 1 = .ok (.ifCond .ne 10, 3) := by decide +kernel
theorem dX12_fault_4 : decode cX12_fault 4 = .ok (.aload_n 0, 1) := by decide +kernel
theorem dX12_fault_5 : decode cX12_fault 5 = .ok (.getfield 373, 3) := by decide +kernel
theorem dX12_fault_8 : decode cX12_fault 8 = .ok (.goto 16, 3) := by decide +kernel
theorem dX12_fault_11 : decode cX12_fault 11 = .ok (.iload_n 1, 1) := by decide +kernel
theorem dX12_fault_12 : decode cX12_fault 12 = .ok (.iconst 1, 1) := by decide +kernel
theorem dX12_fault_13 : decode cX12_fault 13 = .ok (.if_icmp .ne 10, 3) := by decide +kernel
theorem dX12_fault_16 : decode cX12_fault 16 = .ok (.aload_n 0, 1) := by decide +kernel
theorem dX12_fault_17 : decode cX12_fault 17 = .ok (.getfield 13, 3) := by decide +kernel
theorem dX12_fault_20 : decode cX12_fault 20 = .ok (.goto 4, 3) := by decide +kernel
theorem dX12_fault_23 : decode cX12_fault 23 = .ok (.iconst (-1), 1) := by decide +kernel
theorem dX12_fault_24 : decode cX12_fault 24 = .ok (.ireturn, 1) := by decide +kernel
theorem dX12_isPerson_0 : decode cX12_isPerson 0 = .ok (.iload_n 1, 1) := by decide +kernel
theorem dX12_isPerson_1 : decode cX12_isPerson 1 = .ok (.i2l, 1) := by decide +kernel
theorem dX12_isPerson_2 : decode cX12_isPerson 2 = .ok (.lconst 0, 1) := by decide +kernel
theorem dX12_isPerson_3 : decode cX12_isPerson 3 = .ok (.aload_n 0, 1) := by decide +kernel
theorem dX12_isPerson_4 : decode cX12_isPerson 4 = .ok (.invokevirtual 399, 3) := by decide +kernel
theorem dX12_isPerson_7 : decode cX12_isPerson 7 = .ok (.iconst 1, 1) := by decide +kernel
theorem dX12_isPerson_8 : decode cX12_isPerson 8 = .ok (.isub, 1) := by decide +kernel
theorem dX12_isPerson_9 : decode cX12_isPerson 9 = .ok (.i2l, 1) := by decide +kernel
theorem dX12_isPerson_10 : decode cX12_isPerson 10 = .ok (.invokestatic 300, 3) := by decide +kernel
theorem dX12_isPerson_13 : decode cX12_isPerson 13 = .ok (.ireturn, 1) := by decide +kernel
theorem dX12_laysFeast_0 : decode cX12_laysFeast 0 = .ok (.aload_n 0, 1) := by decide +kernel
theorem dX12_laysFeast_1 : decode cX12_laysFeast 1 = .ok (.iconst (-1), 1) := by decide +kernel
theorem dX12_laysFeast_2 : decode cX12_laysFeast 2 = .ok (.putfield 569, 3) := by decide +kernel
theorem dX12_laysFeast_5 : decode cX12_laysFeast 5 = .ok (.iconst 0, 1) := by decide +kernel
theorem dX12_laysFeast_6 : decode cX12_laysFeast 6 = .ok (.istore_n 1, 1) := by decide +kernel
theorem dX12_laysFeast_7 : decode cX12_laysFeast 7 = .ok (.iconst 0, 1) := by decide +kernel
theorem dX12_laysFeast_8 : decode cX12_laysFeast 8 = .ok (.istore_n 2, 1) := by decide +kernel
theorem dX12_laysFeast_9 : decode cX12_laysFeast 9 = .ok (.aload_n 0, 1) := by decide +kernel
theorem dX12_laysFeast_10 : decode cX12_laysFeast 10 = .ok (.getfield 151, 3) := by decide +kernel
theorem dX12_laysFeast_13 : decode cX12_laysFeast 13 = .ok (.iconst 0, 1) := by decide +kernel
theorem dX12_laysFeast_14 : decode cX12_laysFeast 14 = .ok (.bipush (-2), 2) := by decide +kernel
theorem dX12_laysFeast_16 : decode cX12_laysFeast 16 = .ok (.iastore, 1) := by decide +kernel
theorem dX12_laysFeast_17 : decode cX12_laysFeast 17 = .ok (.iload_n 2, 1) := by decide +kernel
theorem dX12_laysFeast_18 : decode cX12_laysFeast 18 = .ok (.ifCond .lt 191, 3) := by decide +kernel
theorem dX12_laysFeast_21 : decode cX12_laysFeast 21 = .ok (.iload_n 2, 1) := by decide +kernel
theorem dX12_laysFeast_22 : decode cX12_laysFeast 22 = .ok (.aload_n 0, 1) := by decide +kernel
theorem dX12_laysFeast_23 : decode cX12_laysFeast 23 = .ok (.invokevirtual 399, 3) := by decide +kernel
theorem dX12_laysFeast_26 : decode cX12_laysFeast 26 = .ok (.if_icmp .ne 47, 3) := by decide +kernel
theorem dX12_laysFeast_29 : decode cX12_laysFeast 29 = .ok (.iload_n 1, 1) := by decide +kernel
theorem dX12_laysFeast_30 : decode cX12_laysFeast 30 = .ok (.aload_n 0, 1) := by decide +kernel
theorem dX12_laysFeast_31 : decode cX12_laysFeast 31 = .ok (.getfield 569, 3) := by decide +kernel
theorem dX12_laysFeast_34 : decode cX12_laysFeast 34 = .ok (.if_icmp .le 33, 3) := by decide +kernel
theorem dX12_laysFeast_37 : decode cX12_laysFeast 37 = .ok (.aload_n 0, 1) := by decide +kernel
theorem dX12_laysFeast_38 : decode cX12_laysFeast 38 = .ok (.iload_n 1, 1) := by decide +kernel
theorem dX12_laysFeast_39 : decode cX12_laysFeast 39 = .ok (.putfield 569, 3) := by decide +kernel
theorem dX12_laysFeast_42 : decode cX12_laysFeast 42 = .ok (.iconst 0, 1) := by decide +kernel
theorem dX12_laysFeast_43 : decode cX12_laysFeast 43 = .ok (.istore_n 3, 1) := by decide +kernel
theorem dX12_laysFeast_44 : decode cX12_laysFeast 44 = .ok (.iload_n 3, 1) := by decide +kernel
theorem dX12_laysFeast_45 : decode cX12_laysFeast 45 = .ok (.iload_n 2, 1) := by decide +kernel
theorem dX12_laysFeast_46 : decode cX12_laysFeast 46 = .ok (.if_icmp .ge 21, 3) := by decide +kernel
theorem dX12_laysFeast_49 : decode cX12_laysFeast 49 = .ok (.aload_n 0, 1) := by decide +kernel
theorem dX12_laysFeast_50 : decode cX12_laysFeast 50 = .ok (.getfield 154, 3) := by decide +kernel
theorem dX12_laysFeast_53 : decode cX12_laysFeast 53 = .ok (.iload_n 3, 1) := by decide +kernel
theorem dX12_laysFeast_54 : decode cX12_laysFeast 54 = .ok (.aload_n 0, 1) := by decide +kernel
theorem dX12_laysFeast_55 : decode cX12_laysFeast 55 = .ok (.getfield 151, 3) := by decide +kernel
theorem dX12_laysFeast_58 : decode cX12_laysFeast 58 = .ok (.iload_n 3, 1) := by decide +kernel
theorem dX12_laysFeast_59 : decode cX12_laysFeast 59 = .ok (.iaload, 1) := by decide +kernel
theorem dX12_laysFeast_60 : decode cX12_laysFeast 60 = .ok (.iastore, 1) := by decide +kernel
theorem dX12_laysFeast_61 : decode cX12_laysFeast 61 = .ok (.iinc 3 1, 3) := by decide +kernel
theorem dX12_laysFeast_64 : decode cX12_laysFeast 64 = .ok (.goto (-20), 3) := by decide +kernel
theorem dX12_laysFeast_67 : decode cX12_laysFeast 67 = .ok (.iinc 2 (-1), 3) := by decide +kernel
theorem dX12_laysFeast_70 : decode cX12_laysFeast 70 = .ok (.goto (-53), 3) := by decide +kernel
theorem dX12_laysFeast_73 : decode cX12_laysFeast 73 = .ok (.aload_n 0, 1) := by decide +kernel
theorem dX12_laysFeast_74 : decode cX12_laysFeast 74 = .ok (.getfield 151, 3) := by decide +kernel
theorem dX12_laysFeast_77 : decode cX12_laysFeast 77 = .ok (.iload_n 2, 1) := by decide +kernel
theorem dX12_laysFeast_78 : decode cX12_laysFeast 78 = .ok (.iaload, 1) := by decide +kernel
theorem dX12_laysFeast_79 : decode cX12_laysFeast 79 = .ok (.ifCond .lt 28, 3) := by decide +kernel
theorem dX12_laysFeast_82 : decode cX12_laysFeast 82 = .ok (.aload_n 0, 1) := by decide +kernel
theorem dX12_laysFeast_83 : decode cX12_laysFeast 83 = .ok (.aload_n 0, 1) := by decide +kernel
theorem dX12_laysFeast_84 : decode cX12_laysFeast 84 = .ok (.getfield 139, 3) := by decide +kernel
theorem dX12_laysFeast_87 : decode cX12_laysFeast 87 = .ok (.sipush 2000, 3) := by decide +kernel
theorem dX12_laysFeast_90 : decode cX12_laysFeast 90 = .ok (.iload_n 2, 1) := by decide +kernel
theorem dX12_laysFeast_91 : decode cX12_laysFeast 91 = .ok (.imul, 1) := by decide +kernel
theorem dX12_laysFeast_92 : decode cX12_laysFeast 92 = .ok (.aload_n 0, 1) := by decide +kernel
theorem dX12_laysFeast_93 : decode cX12_laysFeast 93 = .ok (.getfield 151, 3) := by decide +kernel
theorem dX12_laysFeast_96 : decode cX12_laysFeast 96 = .ok (.iload_n 2, 1) := by decide +kernel
theorem dX12_laysFeast_97 : decode cX12_laysFeast 97 = .ok (.iaload, 1) := by decide +kernel
theorem dX12_laysFeast_98 : decode cX12_laysFeast 98 = .ok (.iadd, 1) := by decide +kernel
theorem dX12_laysFeast_99 : decode cX12_laysFeast 99 = .ok (.iaload, 1) := by decide +kernel
theorem dX12_laysFeast_100 : decode cX12_laysFeast 100 = .ok (.iconst 1, 1) := by decide +kernel
theorem dX12_laysFeast_101 : decode cX12_laysFeast 101 = .ok (.invokevirtual 462, 3) := by decide +kernel
theorem dX12_laysFeast_104 : decode cX12_laysFeast 104 = .ok (.iinc 1 (-1), 3) := by decide +kernel
theorem dX12_laysFeast_107 : decode cX12_laysFeast 107 = .ok (.aload_n 0, 1) := by decide +kernel
theorem dX12_laysFeast_108 : decode cX12_laysFeast 108 = .ok (.getfield 151, 3) := by decide +kernel
theorem dX12_laysFeast_111 : decode cX12_laysFeast 111 = .ok (.iload_n 2, 1) := by decide +kernel
theorem dX12_laysFeast_112 : decode cX12_laysFeast 112 = .ok (.aload_n 0, 1) := by decide +kernel
theorem dX12_laysFeast_113 : decode cX12_laysFeast 113 = .ok (.iload_n 2, 1) := by decide +kernel
theorem dX12_laysFeast_114 : decode cX12_laysFeast 114 = .ok (.aload_n 0, 1) := by decide +kernel
theorem dX12_laysFeast_115 : decode cX12_laysFeast 115 = .ok (.getfield 151, 3) := by decide +kernel
theorem dX12_laysFeast_118 : decode cX12_laysFeast 118 = .ok (.iload_n 2, 1) := by decide +kernel
theorem dX12_laysFeast_119 : decode cX12_laysFeast 119 = .ok (.iaload, 1) := by decide +kernel
theorem dX12_laysFeast_120 : decode cX12_laysFeast 120 = .ok (.invokevirtual 572, 3) := by decide +kernel
theorem dX12_laysFeast_123 : decode cX12_laysFeast 123 = .ok (.iastore, 1) := by decide +kernel
theorem dX12_laysFeast_124 : decode cX12_laysFeast 124 = .ok (.aload_n 0, 1) := by decide +kernel
theorem dX12_laysFeast_125 : decode cX12_laysFeast 125 = .ok (.getfield 151, 3) := by decide +kernel
theorem dX12_laysFeast_128 : decode cX12_laysFeast 128 = .ok (.iload_n 2, 1) := by decide +kernel
theorem dX12_laysFeast_129 : decode cX12_laysFeast 129 = .ok (.iaload, 1) := by decide +kernel
theorem dX12_laysFeast_130 : decode cX12_laysFeast 130 = .ok (.bipush (-2), 2) := by decide +kernel
theorem dX12_laysFeast_132 : decode cX12_laysFeast 132 = .ok (.if_icmp .ne 9, 3) := by decide +kernel
theorem dX12_laysFeast_135 : decode cX12_laysFeast 135 = .ok (.iinc 2 (-1), 3) := by decide +kernel
theorem dX12_laysFeast_138 : decode cX12_laysFeast 138 = .ok (.goto (-121), 3) := by decide +kernel
theorem dX12_laysFeast_141 : decode cX12_laysFeast 141 = .ok (.aload_n 0, 1) := by decide +kernel
theorem dX12_laysFeast_142 : decode cX12_laysFeast 142 = .ok (.getfield 151, 3) := by decide +kernel
theorem dX12_laysFeast_145 : decode cX12_laysFeast 145 = .ok (.iload_n 2, 1) := by decide +kernel
theorem dX12_laysFeast_146 : decode cX12_laysFeast 146 = .ok (.iaload, 1) := by decide +kernel
theorem dX12_laysFeast_147 : decode cX12_laysFeast 147 = .ok (.ifCond .lt 28, 3) := by decide +kernel
theorem dX12_laysFeast_150 : decode cX12_laysFeast 150 = .ok (.aload_n 0, 1) := by decide +kernel
theorem dX12_laysFeast_151 : decode cX12_laysFeast 151 = .ok (.aload_n 0, 1) := by decide +kernel
theorem dX12_laysFeast_152 : decode cX12_laysFeast 152 = .ok (.getfield 139, 3) := by decide +kernel
theorem dX12_laysFeast_155 : decode cX12_laysFeast 155 = .ok (.sipush 2000, 3) := by decide +kernel
theorem dX12_laysFeast_158 : decode cX12_laysFeast 158 = .ok (.iload_n 2, 1) := by decide +kernel
theorem dX12_laysFeast_159 : decode cX12_laysFeast 159 = .ok (.imul, 1) := by decide +kernel
theorem dX12_laysFeast_160 : decode cX12_laysFeast 160 = .ok (.aload_n 0, 1) := by decide +kernel
theorem dX12_laysFeast_161 : decode cX12_laysFeast 161 = .ok (.getfield 151, 3) := by decide +kernel
theorem dX12_laysFeast_164 : decode cX12_laysFeast 164 = .ok (.iload_n 2, 1) := by decide +kernel
theorem dX12_laysFeast_165 : decode cX12_laysFeast 165 = .ok (.iaload, 1) := by decide +kernel
theorem dX12_laysFeast_166 : decode cX12_laysFeast 166 = .ok (.iadd, 1) := by decide +kernel
theorem dX12_laysFeast_167 : decode cX12_laysFeast 167 = .ok (.iaload, 1) := by decide +kernel
theorem dX12_laysFeast_168 : decode cX12_laysFeast 168 = .ok (.iconst (-1), 1) := by decide +kernel
theorem dX12_laysFeast_169 : decode cX12_laysFeast 169 = .ok (.invokevirtual 462, 3) := by decide +kernel
theorem dX12_laysFeast_172 : decode cX12_laysFeast 172 = .ok (.iinc 1 1, 3) := by decide +kernel
theorem dX12_laysFeast_175 : decode cX12_laysFeast 175 = .ok (.iload_n 1, 1) := by decide +kernel
theorem dX12_laysFeast_176 : decode cX12_laysFeast 176 = .ok (.aload_n 0, 1) := by decide +kernel
theorem dX12_laysFeast_177 : decode cX12_laysFeast 177 = .ok (.invokevirtual 399, 3) := by decide +kernel
theorem dX12_laysFeast_180 : decode cX12_laysFeast 180 = .ok (.iadd, 1) := by decide +kernel
theorem dX12_laysFeast_181 : decode cX12_laysFeast 181 = .ok (.iload_n 2, 1) := by decide +kernel
theorem dX12_laysFeast_182 : decode cX12_laysFeast 182 = .ok (.isub, 1) := by decide +kernel
theorem dX12_laysFeast_183 : decode cX12_laysFeast 183 = .ok (.iconst 1, 1) := by decide +kernel
theorem dX12_laysFeast_184 : decode cX12_laysFeast 184 = .ok (.isub, 1) := by decide +kernel
theorem dX12_laysFeast_185 : decode cX12_laysFeast 185 = .ok (.aload_n 0, 1) := by decide +kernel
theorem dX12_laysFeast_186 : decode cX12_laysFeast 186 = .ok (.getfield 569, 3) := by decide +kernel
theorem dX12_laysFeast_189 : decode cX12_laysFeast 189 = .ok (.if_icmp .gt 6, 3) := by decide +kernel
theorem dX12_laysFeast_192 : decode cX12_laysFeast 192 = .ok (.goto (-175), 3) := by decide +kernel
theorem dX12_laysFeast_195 : decode cX12_laysFeast 195 = .ok (.iinc 2 1, 3) := by decide +kernel
theorem dX12_laysFeast_198 : decode cX12_laysFeast 198 = .ok (.aload_n 0, 1) := by decide +kernel
theorem dX12_laysFeast_199 : decode cX12_laysFeast 199 = .ok (.getfield 151, 3) := by decide +kernel
theorem dX12_laysFeast_202 : decode cX12_laysFeast 202 = .ok (.iload_n 2, 1) := by decide +kernel
theorem dX12_laysFeast_203 : decode cX12_laysFeast 203 = .ok (.bipush (-2), 2) := by decide +kernel
theorem dX12_laysFeast_205 : decode cX12_laysFeast 205 = .ok (.iastore, 1) := by decide +kernel
theorem dX12_laysFeast_206 : decode cX12_laysFeast 206 = .ok (.goto (-189), 3) := by decide +kernel
theorem dX12_laysFeast_209 : decode cX12_laysFeast 209 = .ok (.return_, 1) := by decide +kernel
theorem dX12_feast_0 : decode cX12_feast 0 = .ok (.iload_n 1, 1) := by decide +kernel
theorem dX12_feast_1 : decode cX12_feast 1 = .ok (.iconst (-1), 1) := by decide +kernel
theorem dX12_feast_2 : decode cX12_feast 2 = .ok (.if_icmp .eq 13, 3) := by decide +kernel
theorem dX12_feast_5 : decode cX12_feast 5 = .ok (.aload_n 0, 1) := by decide +kernel
theorem dX12_feast_6 : decode cX12_feast 6 = .ok (.iload_n 1, 1) := by decide +kernel
theorem dX12_feast_7 : decode cX12_feast 7 = .ok (.invokevirtual 502, 3) := by decide +kernel
theorem dX12_feast_10 : decode cX12_feast 10 = .ok (.ifCond .ne 5, 3) := by decide +kernel
theorem dX12_feast_13 : decode cX12_feast 13 = .ok (.iconst (-1), 1) := by decide +kernel
theorem dX12_feast_14 : decode cX12_feast 14 = .ok (.ireturn, 1) := by decide +kernel
theorem dX12_feast_15 : decode cX12_feast 15 = .ok (.aload_n 0, 1) := by decide +kernel
theorem dX12_feast_16 : decode cX12_feast 16 = .ok (.invokevirtual 575, 3) := by decide +kernel
theorem dX12_feast_19 : decode cX12_feast 19 = .ok (.iload_n 1, 1) := by decide +kernel
theorem dX12_feast_20 : decode cX12_feast 20 = .ok (.iconst (-1), 1) := by decide +kernel
theorem dX12_feast_21 : decode cX12_feast 21 = .ok (.if_icmp .ne 10, 3) := by decide +kernel
theorem dX12_feast_24 : decode cX12_feast 24 = .ok (.aload_n 0, 1) := by decide +kernel
theorem dX12_feast_25 : decode cX12_feast 25 = .ok (.getfield 569, 3) := by decide +kernel
theorem dX12_feast_28 : decode cX12_feast 28 = .ok (.goto 9, 3) := by decide +kernel
theorem dX12_feast_31 : decode cX12_feast 31 = .ok (.aload_n 0, 1) := by decide +kernel
theorem dX12_feast_32 : decode cX12_feast 32 = .ok (.getfield 154, 3) := by decide +kernel
theorem dX12_feast_35 : decode cX12_feast 35 = .ok (.iload_n 1, 1) := by decide +kernel
theorem dX12_feast_36 : decode cX12_feast 36 = .ok (.iaload, 1) := by decide +kernel
theorem dX12_feast_37 : decode cX12_feast 37 = .ok (.ireturn, 1) := by decide +kernel
theorem dX12_feed_0 : decode cX12_feed 0 = .ok (.aload_n 0, 1) := by decide +kernel
theorem dX12_feed_1 : decode cX12_feed 1 = .ok (.getfield 254, 3) := by decide +kernel
theorem dX12_feed_4 : decode cX12_feed 4 = .ok (.bipush 20, 2) := by decide +kernel
theorem dX12_feed_6 : decode cX12_feed 6 = .ok (.iadd, 1) := by decide +kernel
theorem dX12_feed_7 : decode cX12_feed 7 = .ok (.sipush 1600, 3) := by decide +kernel
theorem dX12_feed_10 : decode cX12_feed 10 = .ok (.if_icmp .le 15, 3) := by decide +kernel
theorem dX12_feed_13 : decode cX12_feed 13 = .ok (.aload_n 0, 1) := by decide +kernel
theorem dX12_feed_14 : decode cX12_feed 14 = .ok (.getfield 17, 3) := by decide +kernel
theorem dX12_feed_17 : decode cX12_feed 17 = .ok (.iconst 0, 1) := by decide +kernel
theorem dX12_feed_18 : decode cX12_feed 18 = .ok (.dup2, 1) := by decide +kernel
theorem dX12_feed_19 : decode cX12_feed 19 = .ok (.iaload, 1) := by decide +kernel
theorem dX12_feed_20 : decode cX12_feed 20 = .ok (.iconst 1, 1) := by decide +kernel
theorem dX12_feed_21 : decode cX12_feed 21 = .ok (.iadd, 1) := by decide +kernel
theorem dX12_feed_22 : decode cX12_feed 22 = .ok (.iastore, 1) := by decide +kernel
theorem dX12_feed_23 : decode cX12_feed 23 = .ok (.iconst (-1), 1) := by decide +kernel
theorem dX12_feed_24 : decode cX12_feed 24 = .ok (.ireturn, 1) := by decide +kernel
theorem dX12_feed_25 : decode cX12_feed 25 = .ok (.iconst 0, 1) := by decide +kernel
theorem dX12_feed_26 : decode cX12_feed 26 = .ok (.istore 6, 2) := by decide +kernel
theorem dX12_feed_28 : decode cX12_feed 28 = .ok (.iload 6, 2) := by decide +kernel
theorem dX12_feed_30 : decode cX12_feed 30 = .ok (.bipush 20, 2) := by decide +kernel
theorem dX12_feed_32 : decode cX12_feed 32 = .ok (.if_icmp .ge 92, 3) := by decide +kernel
theorem dX12_feed_35 : decode cX12_feed 35 = .ok (.iload 6, 2) := by decide +kernel
theorem dX12_feed_37 : decode cX12_feed 37 = .ok (.iconst 4, 1) := by decide +kernel
theorem dX12_feed_38 : decode cX12_feed 38 = .ok (.if_icmp .ge 7, 3) := by decide +kernel
theorem dX12_feed_41 : decode cX12_feed 41 = .ok (.iload_n 1, 1) := by decide +kernel
theorem dX12_feed_42 : decode cX12_feed 42 = .ok (.goto 39, 3) := by decide +kernel
theorem dX12_feed_45 : decode cX12_feed 45 = .ok (.iload 6, 2) := by decide +kernel
theorem dX12_feed_47 : decode cX12_feed 47 = .ok (.bipush 8, 2) := by decide +kernel
theorem dX12_feed_49 : decode cX12_feed 49 = .ok (.if_icmp .ge 7, 3) := by decide +kernel
theorem dX12_feed_52 : decode cX12_feed 52 = .ok (.iload_n 2, 1) := by decide +kernel
theorem dX12_feed_53 : decode cX12_feed 53 = .ok (.goto 28, 3) := by decide +kernel
theorem dX12_feed_56 : decode cX12_feed 56 = .ok (.iload 6, 2) := by decide +kernel
theorem dX12_feed_58 : decode cX12_feed 58 = .ok (.bipush 12, 2) := by decide +kernel
theorem dX12_feed_60 : decode cX12_feed 60 = .ok (.if_icmp .ge 7, 3) := by decide +kernel
theorem dX12_feed_63 : decode cX12_feed 63 = .ok (.iload_n 3, 1) := by decide +kernel
theorem dX12_feed_64 : decode cX12_feed 64 = .ok (.goto 17, 3) := by decide +kernel
theorem dX12_feed_67 : decode cX12_feed 67 = .ok (.iload 6, 2) := by decide +kernel
theorem dX12_feed_69 : decode cX12_feed 69 = .ok (.bipush 16, 2) := by decide +kernel
theorem dX12_feed_71 : decode cX12_feed 71 = .ok (.if_icmp .ge 8, 3) := by decide +kernel
theorem dX12_feed_74 : decode cX12_feed 74 = .ok (.iload 4, 2) := by decide +kernel
theorem dX12_feed_76 : decode cX12_feed 76 = .ok (.goto 5, 3) := by decide +kernel
theorem dX12_feed_79 : decode cX12_feed 79 = .ok (.iload 5, 2) := by decide +kernel
theorem dX12_feed_81 : decode cX12_feed 81 = .ok (.istore 7, 2) := by decide +kernel
theorem dX12_feed_83 : decode cX12_feed 83 = .ok (.aload_n 0, 1) := by decide +kernel
theorem dX12_feed_84 : decode cX12_feed 84 = .ok (.getfield 7, 3) := by decide +kernel
theorem dX12_feed_87 : decode cX12_feed 87 = .ok (.aload_n 0, 1) := by decide +kernel
theorem dX12_feed_88 : decode cX12_feed 88 = .ok (.getfield 254, 3) := by decide +kernel
theorem dX12_feed_91 : decode cX12_feed 91 = .ok (.iload 7, 2) := by decide +kernel
theorem dX12_feed_93 : decode cX12_feed 93 = .ok (.bipush 8, 2) := by decide +kernel
theorem dX12_feed_95 : decode cX12_feed 95 = .ok (.iconst 3, 1) := by decide +kernel
theorem dX12_feed_96 : decode cX12_feed 96 = .ok (.iload 6, 2) := by decide +kernel
theorem dX12_feed_98 : decode cX12_feed 98 = .ok (.iconst 4, 1) := by decide +kernel
theorem dX12_feed_99 : decode cX12_feed 99 = .ok (.irem, 1) := by decide +kernel
theorem dX12_feed_100 : decode cX12_feed 100 = .ok (.isub, 1) := by decide +kernel
theorem dX12_feed_101 : decode cX12_feed 101 = .ok (.imul, 1) := by decide +kernel
theorem dX12_feed_102 : decode cX12_feed 102 = .ok (.ishr, 1) := by decide +kernel
theorem dX12_feed_103 : decode cX12_feed 103 = .ok (.sipush 255, 3) := by decide +kernel
theorem dX12_feed_106 : decode cX12_feed 106 = .ok (.iand, 1) := by decide +kernel
theorem dX12_feed_107 : decode cX12_feed 107 = .ok (.iastore, 1) := by decide +kernel
theorem dX12_feed_108 : decode cX12_feed 108 = .ok (.aload_n 0, 1) := by decide +kernel
theorem dX12_feed_109 : decode cX12_feed 109 = .ok (.dup, 1) := by decide +kernel
theorem dX12_feed_110 : decode cX12_feed 110 = .ok (.getfield 254, 3) := by decide +kernel
theorem dX12_feed_113 : decode cX12_feed 113 = .ok (.iconst 1, 1) := by decide +kernel
theorem dX12_feed_114 : decode cX12_feed 114 = .ok (.iadd, 1) := by decide +kernel
theorem dX12_feed_115 : decode cX12_feed 115 = .ok (.putfield 254, 3) := by decide +kernel
theorem dX12_feed_118 : decode cX12_feed 118 = .ok (.iinc 6 1, 3) := by decide +kernel
theorem dX12_feed_121 : decode cX12_feed 121 = .ok (.goto (-93), 3) := by decide +kernel
theorem dX12_feed_124 : decode cX12_feed 124 = .ok (.aload_n 0, 1) := by decide +kernel
theorem dX12_feed_125 : decode cX12_feed 125 = .ok (.getfield 254, 3) := by decide +kernel
theorem dX12_feed_128 : decode cX12_feed 128 = .ok (.ireturn, 1) := by decide +kernel
theorem dX12_fills_0 : decode cX12_fills 0 = .ok (.aload_n 0, 1) := by decide +kernel
theorem dX12_fills_1 : decode cX12_fills 1 = .ok (.iload_n 1, 1) := by decide +kernel
theorem dX12_fills_2 : decode cX12_fills 2 = .ok (.iload_n 2, 1) := by decide +kernel
theorem dX12_fills_3 : decode cX12_fills 3 = .ok (.invokevirtual 518, 3) := by decide +kernel
theorem dX12_fills_6 : decode cX12_fills 6 = .ok (.ifCond .eq 21, 3) := by decide +kernel
theorem dX12_fills_9 : decode cX12_fills 9 = .ok (.iload_n 3, 1) := by decide +kernel
theorem dX12_fills_10 : decode cX12_fills 10 = .ok (.ifCond .eq 11, 3) := by decide +kernel
theorem dX12_fills_13 : decode cX12_fills 13 = .ok (.aload_n 0, 1) := by decide +kernel
theorem dX12_fills_14 : decode cX12_fills 14 = .ok (.iload_n 3, 1) := by decide +kernel
theorem dX12_fills_15 : decode cX12_fills 15 = .ok (.invokevirtual 535, 3) := by decide +kernel
theorem dX12_fills_18 : decode cX12_fills 18 = .ok (.ifCond .eq 9, 3) := by decide +kernel
theorem dX12_fills_21 : decode cX12_fills 21 = .ok (.iload 4, 2) := by decide +kernel
theorem dX12_fills_23 : decode cX12_fills 23 = .ok (.iconst (-1), 1) := by decide +kernel
theorem dX12_fills_24 : decode cX12_fills 24 = .ok (.if_icmp .ge 5, 3) := by decide +kernel
theorem dX12_fills_27 : decode cX12_fills 27 = .ok (.iconst (-1), 1) := by decide +kernel
theorem dX12_fills_28 : decode cX12_fills 28 = .ok (.ireturn, 1) := by decide +kernel
theorem dX12_fills_29 : decode cX12_fills 29 = .ok (.aload_n 0, 1) := by decide +kernel
theorem dX12_fills_30 : decode cX12_fills 30 = .ok (.iload_n 1, 1) := by decide +kernel
theorem dX12_fills_31 : decode cX12_fills 31 = .ok (.iload_n 2, 1) := by decide +kernel
theorem dX12_fills_32 : decode cX12_fills 32 = .ok (.invokestatic 413, 3) := by decide +kernel
theorem dX12_fills_35 : decode cX12_fills 35 = .ok (.invokevirtual 417, 3) := by decide +kernel
theorem dX12_fills_38 : decode cX12_fills 38 = .ok (.iconst 0, 1) := by decide +kernel
theorem dX12_fills_39 : decode cX12_fills 39 = .ok (.istore 5, 2) := by decide +kernel
theorem dX12_fills_41 : decode cX12_fills 41 = .ok (.iconst 0, 1) := by decide +kernel
theorem dX12_fills_42 : decode cX12_fills 42 = .ok (.istore 6, 2) := by decide +kernel
theorem dX12_fills_44 : decode cX12_fills 44 = .ok (.iload 6, 2) := by decide +kernel
theorem dX12_fills_46 : decode cX12_fills 46 = .ok (.aload_n 0, 1) := by decide +kernel
theorem dX12_fills_47 : decode cX12_fills 47 = .ok (.getfield 404, 3) := by decide +kernel
theorem dX12_fills_50 : decode cX12_fills 50 = .ok (.if_icmp .ge 44, 3) := by decide +kernel
theorem dX12_fills_53 : decode cX12_fills 53 = .ok (.iload_n 3, 1) := by decide +kernel
theorem dX12_fills_54 : decode cX12_fills 54 = .ok (.aload_n 0, 1) := by decide +kernel
theorem dX12_fills_55 : decode cX12_fills 55 = .ok (.getfield 130, 3) := by decide +kernel
theorem dX12_fills_58 : decode cX12_fills 58 = .ok (.iload 6, 2) := by decide +kernel
theorem dX12_fills_60 : decode cX12_fills 60 = .ok (.iaload, 1) := by decide +kernel
theorem dX12_fills_61 : decode cX12_fills 61 = .ok (.iconst (-1), 1) := by decide +kernel
theorem dX12_fills_62 : decode cX12_fills 62 = .ok (.ixor, 1) := by decide +kernel
theorem dX12_fills_63 : decode cX12_fills 63 = .ok (.iand, 1) := by decide +kernel
theorem dX12_fills_64 : decode cX12_fills 64 = .ok (.ifCond .eq 6, 3) := by decide +kernel
theorem dX12_fills_67 : decode cX12_fills 67 = .ok (.goto 21, 3) := by decide +kernel
theorem dX12_fills_70 : decode cX12_fills 70 = .ok (.iload 5, 2) := by decide +kernel
theorem dX12_fills_72 : decode cX12_fills 72 = .ok (.iload 4, 2) := by decide +kernel
theorem dX12_fills_74 : decode cX12_fills 74 = .ok (.if_icmp .ne 11, 3) := by decide +kernel
theorem dX12_fills_77 : decode cX12_fills 77 = .ok (.aload_n 0, 1) := by decide +kernel
theorem dX12_fills_78 : decode cX12_fills 78 = .ok (.getfield 130, 3) := by decide +kernel
theorem dX12_fills_81 : decode cX12_fills 81 = .ok (.iload 6, 2) := by decide +kernel
theorem dX12_fills_83 : decode cX12_fills 83 = .ok (.iaload, 1) := by decide +kernel
theorem dX12_fills_84 : decode cX12_fills 84 = .ok (.ireturn, 1) := by decide +kernel
theorem dX12_fills_85 : decode cX12_fills 85 = .ok (.iinc 5 1, 3) := by decide +kernel
theorem dX12_fills_88 : decode cX12_fills 88 = .ok (.iinc 6 1, 3) := by decide +kernel
theorem dX12_fills_91 : decode cX12_fills 91 = .ok (.goto (-47), 3) := by decide +kernel
theorem dX12_fills_94 : decode cX12_fills 94 = .ok (.iload 4, 2) := by decide +kernel
theorem dX12_fills_96 : decode cX12_fills 96 = .ok (.iconst (-1), 1) := by decide +kernel
theorem dX12_fills_97 : decode cX12_fills 97 = .ok (.if_icmp .ne 8, 3) := by decide +kernel
theorem dX12_fills_100 : decode cX12_fills 100 = .ok (.iload 5, 2) := by decide +kernel
theorem dX12_fills_102 : decode cX12_fills 102 = .ok (.goto 4, 3) := by decide +kernel
theorem dX12_fills_105 : decode cX12_fills 105 = .ok (.iconst (-1), 1) := by decide +kernel
theorem dX12_fills_106 : decode cX12_fills 106 = .ok (.ireturn, 1) := by decide +kernel
theorem dX12_finestTold_0 : decode cX12_finestTold 0 = .ok (.aload_n 0, 1) := by decide +kernel
theorem dX12_finestTold_1 : decode cX12_finestTold 1 = .ok (.aload_n 0, 1) := by decide +kernel
theorem dX12_finestTold_2 : decode cX12_finestTold 2 = .ok (.getfield 20, 3) := by decide +kernel
theorem dX12_finestTold_5 : decode cX12_finestTold 5 = .ok (.invokevirtual 318, 3) := by decide +kernel
theorem dX12_finestTold_8 : decode cX12_finestTold 8 = .ok (.aload_n 0, 1) := by decide +kernel
theorem dX12_finestTold_9 : decode cX12_finestTold 9 = .ok (.getfield 105, 3) := by decide +kernel
theorem dX12_finestTold_12 : decode cX12_finestTold 12 = .ok (.iconst 0, 1) := by decide +kernel
theorem dX12_finestTold_13 : decode cX12_finestTold 13 = .ok (.aload_n 0, 1) := by decide +kernel
theorem dX12_finestTold_14 : decode cX12_finestTold 14 = .ok (.iconst 2, 1) := by decide +kernel
theorem dX12_finestTold_15 : decode cX12_finestTold 15 = .ok (.bipush 24, 2) := by decide +kernel
theorem dX12_finestTold_17 : decode cX12_finestTold 17 = .ok (.invokevirtual 322, 3) := by decide +kernel
theorem dX12_finestTold_20 : decode cX12_finestTold 20 = .ok (.iastore, 1) := by decide +kernel
theorem dX12_finestTold_21 : decode cX12_finestTold 21 = .ok (.aload_n 0, 1) := by decide +kernel
theorem dX12_finestTold_22 : decode cX12_finestTold 22 = .ok (.bipush 59, 2) := by decide +kernel
theorem dX12_finestTold_24 : decode cX12_finestTold 24 = .ok (.invokevirtual 326, 3) := by decide +kernel
theorem dX12_finestTold_27 : decode cX12_finestTold 27 = .ok (.return_, 1) := by decide +kernel
theorem dX12_greedy_0 : decode cX12_greedy 0 = .ok (.aload_n 0, 1) := by decide +kernel
theorem dX12_greedy_1 : decode cX12_greedy 1 = .ok (.iload_n 1, 1) := by decide +kernel
theorem dX12_greedy_2 : decode cX12_greedy 2 = .ok (.iload_n 2, 1) := by decide +kernel
theorem dX12_greedy_3 : decode cX12_greedy 3 = .ok (.invokevirtual 518, 3) := by decide +kernel
theorem dX12_greedy_6 : decode cX12_greedy 6 = .ok (.ifCond .ne 5, 3) := by decide +kernel
theorem dX12_greedy_9 : decode cX12_greedy 9 = .ok (.iconst (-1), 1) := by decide +kernel
theorem dX12_greedy_10 : decode cX12_greedy 10 = .ok (.ireturn, 1) := by decide +kernel
theorem dX12_greedy_11 : decode cX12_greedy 11 = .ok (.iload_n 1, 1) := by decide +kernel
theorem dX12_greedy_12 : decode cX12_greedy 12 = .ok (.iload_n 2, 1) := by decide +kernel
theorem dX12_greedy_13 : decode cX12_greedy 13 = .ok (.invokestatic 413, 3) := by decide +kernel
theorem dX12_greedy_16 : decode cX12_greedy 16 = .ok (.lstore_n 3, 1) := by decide +kernel
theorem dX12_greedy_17 : decode cX12_greedy 17 = .ok (.iconst 0, 1) := by decide +kernel
theorem dX12_greedy_18 : decode cX12_greedy 18 = .ok (.istore 5, 2) := by decide +kernel
theorem dX12_greedy_20 : decode cX12_greedy 20 = .ok (.lload_n 3, 1) := by decide +kernel
theorem dX12_greedy_21 : decode cX12_greedy 21 = .ok (.lconst 0, 1) := by decide +kernel
theorem dX12_greedy_22 : decode cX12_greedy 22 = .ok (.lcmp, 1) := by decide +kernel
theorem dX12_greedy_23 : decode cX12_greedy 23 = .ok (.ifCond .ne 5, 3) := by decide +kernel
theorem dX12_greedy_26 : decode cX12_greedy 26 = .ok (.iconst (-1), 1) := by decide +kernel
theorem dX12_greedy_27 : decode cX12_greedy 27 = .ok (.ireturn, 1) := by decide +kernel
theorem dX12_greedy_28 : decode cX12_greedy 28 = .ok (.iconst 1, 1) := by decide +kernel
theorem dX12_greedy_29 : decode cX12_greedy 29 = .ok (.istore 6, 2) := by decide +kernel
theorem dX12_greedy_31 : decode cX12_greedy 31 = .ok (.iload 6, 2) := by decide +kernel
theorem dX12_greedy_33 : decode cX12_greedy 33 = .ok (.aload_n 0, 1) := by decide +kernel
theorem dX12_greedy_34 : decode cX12_greedy 34 = .ok (.invokevirtual 396, 3) := by decide +kernel
theorem dX12_greedy_37 : decode cX12_greedy 37 = .ok (.if_icmp .gt 63, 3) := by decide +kernel
theorem dX12_greedy_40 : decode cX12_greedy 40 = .ok (.lload_n 3, 1) := by decide +kernel
theorem dX12_greedy_41 : decode cX12_greedy 41 = .ok (.lconst 0, 1) := by decide +kernel
theorem dX12_greedy_42 : decode cX12_greedy 42 = .ok (.lcmp, 1) := by decide +kernel
theorem dX12_greedy_43 : decode cX12_greedy 43 = .ok (.ifCond .le 57, 3) := by decide +kernel
theorem dX12_greedy_46 : decode cX12_greedy 46 = .ok (.iload 5, 2) := by decide +kernel
theorem dX12_greedy_48 : decode cX12_greedy 48 = .ok (.invokestatic 521, 3) := by decide +kernel
theorem dX12_greedy_51 : decode cX12_greedy 51 = .ok (.aload_n 0, 1) := by decide +kernel
theorem dX12_greedy_52 : decode cX12_greedy 52 = .ok (.invokevirtual 407, 3) := by decide +kernel
theorem dX12_greedy_55 : decode cX12_greedy 55 = .ok (.if_icmp .ge 45, 3) := by decide +kernel
theorem dX12_greedy_58 : decode cX12_greedy 58 = .ok (.ldc2_w 402, 3) := by decide +kernel
theorem dX12_greedy_61 : decode cX12_greedy 61 = .ok (.iload 6, 2) := by decide +kernel
theorem dX12_greedy_63 : decode cX12_greedy 63 = .ok (.i2l, 1) := by decide +kernel
theorem dX12_greedy_64 : decode cX12_greedy 64 = .ok (.ldiv, 1) := by decide +kernel
theorem dX12_greedy_65 : decode cX12_greedy 65 = .ok (.lload_n 3, 1) := by decide +kernel
theorem dX12_greedy_66 : decode cX12_greedy 66 = .ok (.lcmp, 1) := by decide +kernel
theorem dX12_greedy_67 : decode cX12_greedy 67 = .ok (.ifCond .le 6, 3) := by decide +kernel
theorem dX12_greedy_70 : decode cX12_greedy 70 = .ok (.goto 24, 3) := by decide +kernel
theorem dX12_greedy_73 : decode cX12_greedy 73 = .ok (.iload 5, 2) := by decide +kernel
theorem dX12_greedy_75 : decode cX12_greedy 75 = .ok (.iconst 1, 1) := by decide +kernel
theorem dX12_greedy_76 : decode cX12_greedy 76 = .ok (.iload 6, 2) := by decide +kernel
theorem dX12_greedy_78 : decode cX12_greedy 78 = .ok (.iconst 1, 1) := by decide +kernel
theorem dX12_greedy_79 : decode cX12_greedy 79 = .ok (.isub, 1) := by decide +kernel
theorem dX12_greedy_80 : decode cX12_greedy 80 = .ok (.ishl, 1) := by decide +kernel
theorem dX12_greedy_81 : decode cX12_greedy 81 = .ok (.ior, 1) := by decide +kernel
theorem dX12_greedy_82 : decode cX12_greedy 82 = .ok (.istore 5, 2) := by decide +kernel
theorem dX12_greedy_84 : decode cX12_greedy 84 = .ok (.lload_n 3, 1) := by decide +kernel
theorem dX12_greedy_85 : decode cX12_greedy 85 = .ok (.ldc2_w 402, 3) := by decide +kernel
theorem dX12_greedy_88 : decode cX12_greedy 88 = .ok (.iload 6, 2) := by decide +kernel
theorem dX12_greedy_90 : decode cX12_greedy 90 = .ok (.i2l, 1) := by decide +kernel
theorem dX12_greedy_91 : decode cX12_greedy 91 = .ok (.ldiv, 1) := by decide +kernel
theorem dX12_greedy_92 : decode cX12_greedy 92 = .ok (.lsub, 1) := by decide +kernel
theorem dX12_greedy_93 : decode cX12_greedy 93 = .ok (.lstore_n 3, 1) := by decide +kernel
theorem dX12_greedy_94 : decode cX12_greedy 94 = .ok (.iinc 6 1, 3) := by decide +kernel
theorem dX12_greedy_97 : decode cX12_greedy 97 = .ok (.goto (-66), 3) := by decide +kernel
theorem dX12_greedy_100 : decode cX12_greedy 100 = .ok (.lload_n 3, 1) := by decide +kernel
theorem dX12_greedy_101 : decode cX12_greedy 101 = .ok (.lconst 0, 1) := by decide +kernel
theorem dX12_greedy_102 : decode cX12_greedy 102 = .ok (.lcmp, 1) := by decide +kernel
theorem dX12_greedy_103 : decode cX12_greedy 103 = .ok (.ifCond .ne 8, 3) := by decide +kernel
theorem dX12_greedy_106 : decode cX12_greedy 106 = .ok (.iload 5, 2) := by decide +kernel
theorem dX12_greedy_108 : decode cX12_greedy 108 = .ok (.goto 4, 3) := by decide +kernel
theorem dX12_greedy_111 : decode cX12_greedy 111 = .ok (.iconst (-1), 1) := by decide +kernel
theorem dX12_greedy_112 : decode cX12_greedy 112 = .ok (.ireturn, 1) := by decide +kernel
theorem dX12_sumOf_0 : decode cX12_sumOf 0 = .ok (.iconst 0, 1) := by decide +kernel
theorem dX12_sumOf_1 : decode cX12_sumOf 1 = .ok (.istore 4, 2) := by decide +kernel
theorem dX12_sumOf_3 : decode cX12_sumOf 3 = .ok (.iconst 0, 1) := by decide +kernel
theorem dX12_sumOf_4 : decode cX12_sumOf 4 = .ok (.istore 5, 2) := by decide +kernel
theorem dX12_sumOf_6 : decode cX12_sumOf 6 = .ok (.iload 5, 2) := by decide +kernel
theorem dX12_sumOf_8 : decode cX12_sumOf 8 = .ok (.iload_n 3, 1) := by decide +kernel
theorem dX12_sumOf_9 : decode cX12_sumOf 9 = .ok (.if_icmp .ge 25, 3) := by decide +kernel
theorem dX12_sumOf_12 : decode cX12_sumOf 12 = .ok (.iload 4, 2) := by decide +kernel
theorem dX12_sumOf_14 : decode cX12_sumOf 14 = .ok (.aload_n 0, 1) := by decide +kernel
theorem dX12_sumOf_15 : decode cX12_sumOf 15 = .ok (.getfield 127, 3) := by decide +kernel
theorem dX12_sumOf_18 : decode cX12_sumOf 18 = .ok (.iload_n 1, 1) := by decide +kernel
theorem dX12_sumOf_19 : decode cX12_sumOf 19 = .ok (.iload_n 2, 1) := by decide +kernel
theorem dX12_sumOf_20 : decode cX12_sumOf 20 = .ok (.iload 5, 2) := by decide +kernel
theorem dX12_sumOf_22 : decode cX12_sumOf 22 = .ok (.imul, 1) := by decide +kernel
theorem dX12_sumOf_23 : decode cX12_sumOf 23 = .ok (.iadd, 1) := by decide +kernel
theorem dX12_sumOf_24 : decode cX12_sumOf 24 = .ok (.iaload, 1) := by decide +kernel
theorem dX12_sumOf_25 : decode cX12_sumOf 25 = .ok (.iadd, 1) := by decide +kernel
theorem dX12_sumOf_26 : decode cX12_sumOf 26 = .ok (.istore 4, 2) := by decide +kernel
theorem dX12_sumOf_28 : decode cX12_sumOf 28 = .ok (.iinc 5 1, 3) := by decide +kernel
theorem dX12_sumOf_31 : decode cX12_sumOf 31 = .ok (.goto (-25), 3) := by decide +kernel
theorem dX12_sumOf_34 : decode cX12_sumOf 34 = .ok (.iload 4, 2) := by decide +kernel
theorem dX12_sumOf_36 : decode cX12_sumOf 36 = .ok (.ireturn, 1) := by decide +kernel
theorem dX12_hungryMany_0 : decode cX12_hungryMany 0 = .ok (.iconst 0, 1) := by decide +kernel
theorem dX12_hungryMany_1 : decode cX12_hungryMany 1 = .ok (.istore_n 1, 1) := by decide +kernel
theorem dX12_hungryMany_2 : decode cX12_hungryMany 2 = .ok (.iconst 0, 1) := by decide +kernel
theorem dX12_hungryMany_3 : decode cX12_hungryMany 3 = .ok (.istore_n 2, 1) := by decide +kernel
theorem dX12_hungryMany_4 : decode cX12_hungryMany 4 = .ok (.iload_n 2, 1) := by decide +kernel
theorem dX12_hungryMany_5 : decode cX12_hungryMany 5 = .ok (.aload_n 0, 1) := by decide +kernel
theorem dX12_hungryMany_6 : decode cX12_hungryMany 6 = .ok (.invokevirtual 399, 3) := by decide +kernel
theorem dX12_hungryMany_9 : decode cX12_hungryMany 9 = .ok (.if_icmp .ge 20, 3) := by decide +kernel
theorem dX12_hungryMany_12 : decode cX12_hungryMany 12 = .ok (.aload_n 0, 1) := by decide +kernel
theorem dX12_hungryMany_13 : decode cX12_hungryMany 13 = .ok (.iload_n 2, 1) := by decide +kernel
theorem dX12_hungryMany_14 : decode cX12_hungryMany 14 = .ok (.invokevirtual 474, 3) := by decide +kernel
theorem dX12_hungryMany_17 : decode cX12_hungryMany 17 = .ok (.ifCond .le 6, 3) := by decide +kernel
theorem dX12_hungryMany_20 : decode cX12_hungryMany 20 = .ok (.iinc 1 1, 3) := by decide +kernel
theorem dX12_hungryMany_23 : decode cX12_hungryMany 23 = .ok (.iinc 2 1, 3) := by decide +kernel
theorem dX12_hungryMany_26 : decode cX12_hungryMany 26 = .ok (.goto (-22), 3) := by decide +kernel
theorem dX12_hungryMany_29 : decode cX12_hungryMany 29 = .ok (.iload_n 1, 1) := by decide +kernel
theorem dX12_hungryMany_30 : decode cX12_hungryMany 30 = .ok (.ireturn, 1) := by decide +kernel
theorem dX12_has_0 : decode cX12_has 0 = .ok (.iload_n 1, 1) := by decide +kernel
theorem dX12_has_1 : decode cX12_has 1 = .ok (.tableswitch 121 0 9 #[55, 60, 65, 70, 77, 86, 91, 103, 111, 116], 55) := by decide +kernel
theorem dX12_has_56 : decode cX12_has 56 = .ok (.aload_n 0, 1) := by decide +kernel
theorem dX12_has_57 : decode cX12_has 57 = .ok (.invokevirtual 396, 3) := by decide +kernel
theorem dX12_has_60 : decode cX12_has 60 = .ok (.ireturn, 1) := by decide +kernel
theorem dX12_has_61 : decode cX12_has 61 = .ok (.aload_n 0, 1) := by decide +kernel
theorem dX12_has_62 : decode cX12_has 62 = .ok (.invokevirtual 407, 3) := by decide +kernel
theorem dX12_has_65 : decode cX12_has 65 = .ok (.ireturn, 1) := by decide +kernel
theorem dX12_has_66 : decode cX12_has 66 = .ok (.aload_n 0, 1) := by decide +kernel
theorem dX12_has_67 : decode cX12_has 67 = .ok (.invokevirtual 399, 3) := by decide +kernel
theorem dX12_has_70 : decode cX12_has 70 = .ok (.ireturn, 1) := by decide +kernel
theorem dX12_has_71 : decode cX12_has 71 = .ok (.aload_n 0, 1) := by decide +kernel
theorem dX12_has_72 : decode cX12_has 72 = .ok (.getfield 127, 3) := by decide +kernel
theorem dX12_has_75 : decode cX12_has 75 = .ok (.iconst 0, 1) := by decide +kernel
theorem dX12_has_76 : decode cX12_has 76 = .ok (.iaload, 1) := by decide +kernel
theorem dX12_has_77 : decode cX12_has 77 = .ok (.ireturn, 1) := by decide +kernel
theorem dX12_has_78 : decode cX12_has 78 = .ok (.aload_n 0, 1) := by decide +kernel
theorem dX12_has_79 : decode cX12_has 79 = .ok (.iconst 1, 1) := by decide +kernel
theorem dX12_has_80 : decode cX12_has 80 = .ok (.iconst 1, 1) := by decide +kernel
theorem dX12_has_81 : decode cX12_has 81 = .ok (.bipush 24, 2) := by decide +kernel
theorem dX12_has_83 : decode cX12_has 83 = .ok (.invokevirtual 495, 3) := by decide +kernel
theorem dX12_has_86 : decode cX12_has 86 = .ok (.ireturn, 1) := by decide +kernel
theorem dX12_has_87 : decode cX12_has 87 = .ok (.aload_n 0, 1) := by decide +kernel
theorem dX12_has_88 : decode cX12_has 88 = .ok (.invokevirtual 499, 3) := by decide +kernel
theorem dX12_has_91 : decode cX12_has 91 = .ok (.ireturn, 1) := by decide +kernel
theorem dX12_has_92 : decode cX12_has 92 = .ok (.aload_n 0, 1) := by decide +kernel
theorem dX12_has_93 : decode cX12_has 93 = .ok (.bipush 26, 2) := by decide +kernel
theorem dX12_has_95 : decode cX12_has 95 = .ok (.iconst 2, 1) := by decide +kernel
theorem dX12_has_96 : decode cX12_has 96 = .ok (.aload_n 0, 1) := by decide +kernel
theorem dX12_has_97 : decode cX12_has 97 = .ok (.invokevirtual 399, 3) := by decide +kernel
theorem dX12_has_100 : decode cX12_has 100 = .ok (.invokevirtual 495, 3) := by decide +kernel
theorem dX12_has_103 : decode cX12_has 103 = .ok (.ireturn, 1) := by decide +kernel
theorem dX12_has_104 : decode cX12_has 104 = .ok (.aload_n 0, 1) := by decide +kernel
theorem dX12_has_105 : decode cX12_has 105 = .ok (.getfield 127, 3) := by decide +kernel
theorem dX12_has_108 : decode cX12_has 108 = .ok (.bipush 37, 2) := by decide +kernel
theorem dX12_has_110 : decode cX12_has 110 = .ok (.iaload, 1) := by decide +kernel
theorem dX12_has_111 : decode cX12_has 111 = .ok (.ireturn, 1) := by decide +kernel
theorem dX12_has_112 : decode cX12_has 112 = .ok (.aload_n 0, 1) := by decide +kernel
theorem dX12_has_113 : decode cX12_has 113 = .ok (.getfield 393, 3) := by decide +kernel
theorem dX12_has_116 : decode cX12_has 116 = .ok (.ireturn, 1) := by decide +kernel
theorem dX12_has_117 : decode cX12_has 117 = .ok (.aload_n 0, 1) := by decide +kernel
theorem dX12_has_118 : decode cX12_has 118 = .ok (.getfield 390, 3) := by decide +kernel
theorem dX12_has_121 : decode cX12_has 121 = .ok (.ireturn, 1) := by decide +kernel
theorem dX12_has_122 : decode cX12_has 122 = .ok (.iconst (-1), 1) := by decide +kernel
theorem dX12_has_123 : decode cX12_has 123 = .ok (.ireturn, 1) := by decide +kernel
theorem dX12_haveTold_0 : decode cX12_haveTold 0 = .ok (.aload_n 0, 1) := by decide +kernel
theorem dX12_haveTold_1 : decode cX12_haveTold 1 = .ok (.iconst 1, 1) := by decide +kernel
theorem dX12_haveTold_2 : decode cX12_haveTold 2 = .ok (.bipush 99, 2) := by decide +kernel
theorem dX12_haveTold_4 : decode cX12_haveTold 4 = .ok (.invokevirtual 322, 3) := by decide +kernel
theorem dX12_haveTold_7 : decode cX12_haveTold 7 = .ok (.istore_n 1, 1) := by decide +kernel
theorem dX12_haveTold_8 : decode cX12_haveTold 8 = .ok (.aload_n 0, 1) := by decide +kernel
theorem dX12_haveTold_9 : decode cX12_haveTold 9 = .ok (.aload_n 0, 1) := by decide +kernel
theorem dX12_haveTold_10 : decode cX12_haveTold 10 = .ok (.getfield 39, 3) := by decide +kernel
theorem dX12_haveTold_13 : decode cX12_haveTold 13 = .ok (.invokevirtual 318, 3) := by decide +kernel
theorem dX12_haveTold_16 : decode cX12_haveTold 16 = .ok (.aload_n 0, 1) := by decide +kernel
theorem dX12_haveTold_17 : decode cX12_haveTold 17 = .ok (.iconst 1, 1) := by decide +kernel
theorem dX12_haveTold_18 : decode cX12_haveTold 18 = .ok (.aload_n 0, 1) := by decide +kernel
theorem dX12_haveTold_19 : decode cX12_haveTold 19 = .ok (.getfield 105, 3) := by decide +kernel
theorem dX12_haveTold_22 : decode cX12_haveTold 22 = .ok (.iconst 0, 1) := by decide +kernel
theorem dX12_haveTold_23 : decode cX12_haveTold 23 = .ok (.iaload, 1) := by decide +kernel
theorem dX12_haveTold_24 : decode cX12_haveTold 24 = .ok (.invokevirtual 322, 3) := by decide +kernel
theorem dX12_haveTold_27 : decode cX12_haveTold 27 = .ok (.istore_n 2, 1) := by decide +kernel
theorem dX12_haveTold_28 : decode cX12_haveTold 28 = .ok (.aload_n 0, 1) := by decide +kernel
theorem dX12_haveTold_29 : decode cX12_haveTold 29 = .ok (.getfield 257, 3) := by decide +kernel
theorem dX12_haveTold_32 : decode cX12_haveTold 32 = .ok (.ifCond .ne 21, 3) := by decide +kernel
theorem dX12_haveTold_35 : decode cX12_haveTold 35 = .ok (.aload_n 0, 1) := by decide +kernel
theorem dX12_haveTold_36 : decode cX12_haveTold 36 = .ok (.getfield 115, 3) := by decide +kernel
theorem dX12_haveTold_39 : decode cX12_haveTold 39 = .ok (.iload_n 2, 1) := by decide +kernel
theorem dX12_haveTold_40 : decode cX12_haveTold 40 = .ok (.iaload, 1) := by decide +kernel
theorem dX12_haveTold_41 : decode cX12_haveTold 41 = .ok (.ifCond .le 12, 3) := by decide +kernel
theorem dX12_haveTold_44 : decode cX12_haveTold 44 = .ok (.aload_n 0, 1) := by decide +kernel
theorem dX12_haveTold_45 : decode cX12_haveTold 45 = .ok (.iconst 2, 1) := by decide +kernel
theorem dX12_haveTold_46 : decode cX12_haveTold 46 = .ok (.aload_n 0, 1) := by decide +kernel
theorem dX12_haveTold_47 : decode cX12_haveTold 47 = .ok (.getfield 297, 3) := by decide +kernel
theorem dX12_haveTold_50 : decode cX12_haveTold 50 = .ok (.invokevirtual 287, 3) := by decide +kernel
theorem dX12_haveTold_53 : decode cX12_haveTold 53 = .ok (.aload_n 0, 1) := by decide +kernel
theorem dX12_haveTold_54 : decode cX12_haveTold 54 = .ok (.getfield 257, 3) := by decide +kernel
theorem dX12_haveTold_57 : decode cX12_haveTold 57 = .ok (.ifCond .ne 10, 3) := by decide +kernel
theorem dX12_haveTold_60 : decode cX12_haveTold 60 = .ok (.aload_n 0, 1) := by decide +kernel
theorem dX12_haveTold_61 : decode cX12_haveTold 61 = .ok (.getfield 115, 3) := by decide +kernel
theorem dX12_haveTold_64 : decode cX12_haveTold 64 = .ok (.iload_n 2, 1) := by decide +kernel
theorem dX12_haveTold_65 : decode cX12_haveTold 65 = .ok (.iload_n 1, 1) := by decide +kernel
theorem dX12_haveTold_66 : decode cX12_haveTold 66 = .ok (.iastore, 1) := by decide +kernel
theorem dX12_haveTold_67 : decode cX12_haveTold 67 = .ok (.return_, 1) := by decide +kernel
theorem dX12_writes_0 : decode cX12_writes 0 = .ok (.aload_n 0, 1) := by decide +kernel
theorem dX12_writes_1 : decode cX12_writes 1 = .ok (.getfield 251, 3) := by decide +kernel
theorem dX12_writes_4 : decode cX12_writes 4 = .ok (.aload_n 0, 1) := by decide +kernel
theorem dX12_writes_5 : decode cX12_writes 5 = .ok (.getfield 698, 3) := by decide +kernel
theorem dX12_writes_8 : decode cX12_writes 8 = .ok (.iload_n 1, 1) := by decide +kernel
theorem dX12_writes_9 : decode cX12_writes 9 = .ok (.iastore, 1) := by decide +kernel
theorem dX12_writes_10 : decode cX12_writes 10 = .ok (.aload_n 0, 1) := by decide +kernel
theorem dX12_writes_11 : decode cX12_writes 11 = .ok (.dup, 1) := by decide +kernel
theorem dX12_writes_12 : decode cX12_writes 12 = .ok (.getfield 698, 3) := by decide +kernel
theorem dX12_writes_15 : decode cX12_writes 15 = .ok (.iconst 1, 1) := by decide +kernel
theorem dX12_writes_16 : decode cX12_writes 16 = .ok (.iadd, 1) := by decide +kernel
theorem dX12_writes_17 : decode cX12_writes 17 = .ok (.putfield 698, 3) := by decide +kernel
theorem dX12_writes_20 : decode cX12_writes 20 = .ok (.return_, 1) := by decide +kernel
theorem dX12_writesTwo_0 : decode cX12_writesTwo 0 = .ok (.aload_n 0, 1) := by decide +kernel
theorem dX12_writesTwo_1 : decode cX12_writesTwo 1 = .ok (.iload_n 1, 1) := by decide +kernel
theorem dX12_writesTwo_2 : decode cX12_writesTwo 2 = .ok (.sipush 256, 3) := by decide +kernel
theorem dX12_writesTwo_5 : decode cX12_writesTwo 5 = .ok (.idiv, 1) := by decide +kernel
theorem dX12_writesTwo_6 : decode cX12_writesTwo 6 = .ok (.invokevirtual 701, 3) := by decide +kernel
theorem dX12_writesTwo_9 : decode cX12_writesTwo 9 = .ok (.aload_n 0, 1) := by decide +kernel
theorem dX12_writesTwo_10 : decode cX12_writesTwo 10 = .ok (.iload_n 1, 1) := by decide +kernel
theorem dX12_writesTwo_11 : decode cX12_writesTwo 11 = .ok (.sipush 256, 3) := by decide +kernel
theorem dX12_writesTwo_14 : decode cX12_writesTwo 14 = .ok (.irem, 1) := by decide +kernel
theorem dX12_writesTwo_15 : decode cX12_writesTwo 15 = .ok (.invokevirtual 701, 3) := by decide +kernel
theorem dX12_writesTwo_18 : decode cX12_writesTwo 18 = .ok (.return_, 1) := by decide +kernel
theorem dX12_image_0 : decode cX12_image 0 = .ok (.aload_n 0, 1) := by decide +kernel
theorem dX12_image_1 : decode cX12_image 1 = .ok (.iconst 0, 1) := by decide +kernel
theorem dX12_image_2 : decode cX12_image 2 = .ok (.putfield 698, 3) := by decide +kernel
theorem dX12_image_5 : decode cX12_image 5 = .ok (.aload_n 0, 1) := by decide +kernel
theorem dX12_image_6 : decode cX12_image 6 = .ok (.aload_n 0, 1) := by decide +kernel
theorem dX12_image_7 : decode cX12_image 7 = .ok (.getfield 127, 3) := by decide +kernel
theorem dX12_image_10 : decode cX12_image 10 = .ok (.iconst 0, 1) := by decide +kernel
theorem dX12_image_11 : decode cX12_image 11 = .ok (.iaload, 1) := by decide +kernel
theorem dX12_image_12 : decode cX12_image 12 = .ok (.invokevirtual 704, 3) := by decide +kernel
theorem dX12_image_15 : decode cX12_image 15 = .ok (.iconst 1, 1) := by decide +kernel
theorem dX12_image_16 : decode cX12_image 16 = .ok (.istore_n 1, 1) := by decide +kernel
theorem dX12_image_17 : decode cX12_image 17 = .ok (.iload_n 1, 1) := by decide +kernel
theorem dX12_image_18 : decode cX12_image 18 = .ok (.aload_n 0, 1) := by decide +kernel
theorem dX12_image_19 : decode cX12_image 19 = .ok (.invokevirtual 396, 3) := by decide +kernel
theorem dX12_image_22 : decode cX12_image 22 = .ok (.if_icmp .gt 19, 3) := by decide +kernel
theorem dX12_image_25 : decode cX12_image 25 = .ok (.aload_n 0, 1) := by decide +kernel
theorem dX12_image_26 : decode cX12_image 26 = .ok (.aload_n 0, 1) := by decide +kernel
theorem dX12_image_27 : decode cX12_image 27 = .ok (.getfield 127, 3) := by decide +kernel
theorem dX12_image_30 : decode cX12_image 30 = .ok (.iload_n 1, 1) := by decide +kernel
theorem dX12_image_31 : decode cX12_image 31 = .ok (.iaload, 1) := by decide +kernel
theorem dX12_image_32 : decode cX12_image 32 = .ok (.invokevirtual 704, 3) := by decide +kernel
theorem dX12_image_35 : decode cX12_image 35 = .ok (.iinc 1 1, 3) := by decide +kernel
theorem dX12_image_38 : decode cX12_image 38 = .ok (.goto (-21), 3) := by decide +kernel
theorem dX12_image_41 : decode cX12_image 41 = .ok (.iconst 0, 1) := by decide +kernel
theorem dX12_image_42 : decode cX12_image 42 = .ok (.istore_n 1, 1) := by decide +kernel
theorem dX12_image_43 : decode cX12_image 43 = .ok (.iload_n 1, 1) := by decide +kernel
theorem dX12_image_44 : decode cX12_image 44 = .ok (.aload_n 0, 1) := by decide +kernel
theorem dX12_image_45 : decode cX12_image 45 = .ok (.invokevirtual 399, 3) := by decide +kernel
theorem dX12_image_48 : decode cX12_image 48 = .ok (.if_icmp .ge 27, 3) := by decide +kernel
theorem dX12_image_51 : decode cX12_image 51 = .ok (.aload_n 0, 1) := by decide +kernel
theorem dX12_image_52 : decode cX12_image 52 = .ok (.aload_n 0, 1) := by decide +kernel
theorem dX12_image_53 : decode cX12_image 53 = .ok (.iload_n 1, 1) := by decide +kernel
theorem dX12_image_54 : decode cX12_image 54 = .ok (.invokevirtual 474, 3) := by decide +kernel
theorem dX12_image_57 : decode cX12_image 57 = .ok (.invokevirtual 701, 3) := by decide +kernel
theorem dX12_image_60 : decode cX12_image 60 = .ok (.aload_n 0, 1) := by decide +kernel
theorem dX12_image_61 : decode cX12_image 61 = .ok (.aload_n 0, 1) := by decide +kernel
theorem dX12_image_62 : decode cX12_image 62 = .ok (.iload_n 1, 1) := by decide +kernel
theorem dX12_image_63 : decode cX12_image 63 = .ok (.invokevirtual 465, 3) := by decide +kernel
theorem dX12_image_66 : decode cX12_image 66 = .ok (.invokevirtual 704, 3) := by decide +kernel
theorem dX12_image_69 : decode cX12_image 69 = .ok (.iinc 1 1, 3) := by decide +kernel
theorem dX12_image_72 : decode cX12_image 72 = .ok (.goto (-29), 3) := by decide +kernel
theorem dX12_image_75 : decode cX12_image 75 = .ok (.aload_n 0, 1) := by decide +kernel
theorem dX12_image_76 : decode cX12_image 76 = .ok (.aload_n 0, 1) := by decide +kernel
theorem dX12_image_77 : decode cX12_image 77 = .ok (.getfield 251, 3) := by decide +kernel
theorem dX12_image_80 : decode cX12_image 80 = .ok (.aload_n 0, 1) := by decide +kernel
theorem dX12_image_81 : decode cX12_image 81 = .ok (.getfield 698, 3) := by decide +kernel
theorem dX12_image_84 : decode cX12_image 84 = .ok (.invokestatic 707, 3) := by decide +kernel
theorem dX12_image_87 : decode cX12_image 87 = .ok (.invokevirtual 701, 3) := by decide +kernel
theorem dX12_image_90 : decode cX12_image 90 = .ok (.aload_n 0, 1) := by decide +kernel
theorem dX12_image_91 : decode cX12_image 91 = .ok (.getfield 698, 3) := by decide +kernel
theorem dX12_image_94 : decode cX12_image 94 = .ok (.ireturn, 1) := by decide +kernel
theorem dX12_isAsSeen_0 : decode cX12_isAsSeen 0 = .ok (.iconst 0, 1) := by decide +kernel
theorem dX12_isAsSeen_1 : decode cX12_isAsSeen 1 = .ok (.istore_n 2, 1) := by decide +kernel
theorem dX12_isAsSeen_2 : decode cX12_isAsSeen 2 = .ok (.iload_n 2, 1) := by decide +kernel
theorem dX12_isAsSeen_3 : decode cX12_isAsSeen 3 = .ok (.aload_n 0, 1) := by decide +kernel
theorem dX12_isAsSeen_4 : decode cX12_isAsSeen 4 = .ok (.getfield 393, 3) := by decide +kernel
theorem dX12_isAsSeen_7 : decode cX12_isAsSeen 7 = .ok (.if_icmp .ge 65, 3) := by decide +kernel
theorem dX12_isAsSeen_10 : decode cX12_isAsSeen 10 = .ok (.aload_n 0, 1) := by decide +kernel
theorem dX12_isAsSeen_11 : decode cX12_isAsSeen 11 = .ok (.getfield 157, 3) := by decide +kernel
theorem dX12_isAsSeen_14 : decode cX12_isAsSeen 14 = .ok (.iconst 3, 1) := by decide +kernel
theorem dX12_isAsSeen_15 : decode cX12_isAsSeen 15 = .ok (.iload_n 2, 1) := by decide +kernel
theorem dX12_isAsSeen_16 : decode cX12_isAsSeen 16 = .ok (.imul, 1) := by decide +kernel
theorem dX12_isAsSeen_17 : decode cX12_isAsSeen 17 = .ok (.iaload, 1) := by decide +kernel
theorem dX12_isAsSeen_18 : decode cX12_isAsSeen 18 = .ok (.iload_n 1, 1) := by decide +kernel
theorem dX12_isAsSeen_19 : decode cX12_isAsSeen 19 = .ok (.if_icmp .ne 47, 3) := by decide +kernel
theorem dX12_isAsSeen_22 : decode cX12_isAsSeen 22 = .ok (.aload_n 0, 1) := by decide +kernel
theorem dX12_isAsSeen_23 : decode cX12_isAsSeen 23 = .ok (.getfield 127, 3) := by decide +kernel
theorem dX12_isAsSeen_26 : decode cX12_isAsSeen 26 = .ok (.iconst 0, 1) := by decide +kernel
theorem dX12_isAsSeen_27 : decode cX12_isAsSeen 27 = .ok (.iaload, 1) := by decide +kernel
theorem dX12_isAsSeen_28 : decode cX12_isAsSeen 28 = .ok (.sipush 999, 3) := by decide +kernel
theorem dX12_isAsSeen_31 : decode cX12_isAsSeen 31 = .ok (.if_icmp .gt 33, 3) := by decide +kernel
theorem dX12_isAsSeen_34 : decode cX12_isAsSeen 34 = .ok (.aload_n 0, 1) := by decide +kernel
theorem dX12_isAsSeen_35 : decode cX12_isAsSeen 35 = .ok (.getfield 483, 3) := by decide +kernel
theorem dX12_isAsSeen_38 : decode cX12_isAsSeen 38 = .ok (.aload_n 0, 1) := by decide +kernel
theorem dX12_isAsSeen_39 : decode cX12_isAsSeen 39 = .ok (.getfield 157, 3) := by decide +kernel
theorem dX12_isAsSeen_42 : decode cX12_isAsSeen 42 = .ok (.iconst 3, 1) := by decide +kernel
theorem dX12_isAsSeen_43 : decode cX12_isAsSeen 43 = .ok (.iload_n 2, 1) := by decide +kernel
theorem dX12_isAsSeen_44 : decode cX12_isAsSeen 44 = .ok (.imul, 1) := by decide +kernel
theorem dX12_isAsSeen_45 : decode cX12_isAsSeen 45 = .ok (.iconst 1, 1) := by decide +kernel
theorem dX12_isAsSeen_46 : decode cX12_isAsSeen 46 = .ok (.iadd, 1) := by decide +kernel
theorem dX12_isAsSeen_47 : decode cX12_isAsSeen 47 = .ok (.iaload, 1) := by decide +kernel
theorem dX12_isAsSeen_48 : decode cX12_isAsSeen 48 = .ok (.ishr, 1) := by decide +kernel
theorem dX12_isAsSeen_49 : decode cX12_isAsSeen 49 = .ok (.iconst 1, 1) := by decide +kernel
theorem dX12_isAsSeen_50 : decode cX12_isAsSeen 50 = .ok (.iand, 1) := by decide +kernel
theorem dX12_isAsSeen_51 : decode cX12_isAsSeen 51 = .ok (.aload_n 0, 1) := by decide +kernel
theorem dX12_isAsSeen_52 : decode cX12_isAsSeen 52 = .ok (.getfield 157, 3) := by decide +kernel
theorem dX12_isAsSeen_55 : decode cX12_isAsSeen 55 = .ok (.iconst 3, 1) := by decide +kernel
theorem dX12_isAsSeen_56 : decode cX12_isAsSeen 56 = .ok (.iload_n 2, 1) := by decide +kernel
theorem dX12_isAsSeen_57 : decode cX12_isAsSeen 57 = .ok (.imul, 1) := by decide +kernel
theorem dX12_isAsSeen_58 : decode cX12_isAsSeen 58 = .ok (.iconst 2, 1) := by decide +kernel
theorem dX12_isAsSeen_59 : decode cX12_isAsSeen 59 = .ok (.iadd, 1) := by decide +kernel
theorem dX12_isAsSeen_60 : decode cX12_isAsSeen 60 = .ok (.iaload, 1) := by decide +kernel
theorem dX12_isAsSeen_61 : decode cX12_isAsSeen 61 = .ok (.if_icmp .eq 5, 3) := by decide +kernel
theorem dX12_isAsSeen_64 : decode cX12_isAsSeen 64 = .ok (.iconst 0, 1) := by decide +kernel
theorem dX12_isAsSeen_65 : decode cX12_isAsSeen 65 = .ok (.ireturn, 1) := by decide +kernel
theorem dX12_isAsSeen_66 : decode cX12_isAsSeen 66 = .ok (.iinc 2 1, 3) := by decide +kernel
theorem dX12_isAsSeen_69 : decode cX12_isAsSeen 69 = .ok (.goto (-67), 3) := by decide +kernel
theorem dX12_isAsSeen_72 : decode cX12_isAsSeen 72 = .ok (.iconst 1, 1) := by decide +kernel
theorem dX12_isAsSeen_73 : decode cX12_isAsSeen 73 = .ok (.ireturn, 1) := by decide +kernel
theorem dX12_twoAt_0 : decode cX12_twoAt 0 = .ok (.sipush 256, 3) := by decide +kernel
theorem dX12_twoAt_3 : decode cX12_twoAt 3 = .ok (.aload_n 0, 1) := by decide +kernel
theorem dX12_twoAt_4 : decode cX12_twoAt 4 = .ok (.getfield 7, 3) := by decide +kernel
theorem dX12_twoAt_7 : decode cX12_twoAt 7 = .ok (.iload_n 1, 1) := by decide +kernel
theorem dX12_twoAt_8 : decode cX12_twoAt 8 = .ok (.iaload, 1) := by decide +kernel
theorem dX12_twoAt_9 : decode cX12_twoAt 9 = .ok (.imul, 1) := by decide +kernel
theorem dX12_twoAt_10 : decode cX12_twoAt 10 = .ok (.aload_n 0, 1) := by decide +kernel
theorem dX12_twoAt_11 : decode cX12_twoAt 11 = .ok (.getfield 7, 3) := by decide +kernel
theorem dX12_twoAt_14 : decode cX12_twoAt 14 = .ok (.iload_n 1, 1) := by decide +kernel
theorem dX12_twoAt_15 : decode cX12_twoAt 15 = .ok (.iconst 1, 1) := by decide +kernel
theorem dX12_twoAt_16 : decode cX12_twoAt 16 = .ok (.iadd, 1) := by decide +kernel
theorem dX12_twoAt_17 : decode cX12_twoAt 17 = .ok (.iaload, 1) := by decide +kernel
theorem dX12_twoAt_18 : decode cX12_twoAt 18 = .ok (.iadd, 1) := by decide +kernel
theorem dX12_twoAt_19 : decode cX12_twoAt 19 = .ok (.ireturn, 1) := by decide +kernel
theorem dX12_isImage_0 : decode cX12_isImage 0 = .ok (.iconst 2, 1) := by decide +kernel
theorem dX12_isImage_1 : decode cX12_isImage 1 = .ok (.iconst 2, 1) := by decide +kernel
theorem dX12_isImage_2 : decode cX12_isImage 2 = .ok (.aload_n 0, 1) := by decide +kernel
theorem dX12_isImage_3 : decode cX12_isImage 3 = .ok (.invokevirtual 396, 3) := by decide +kernel
theorem dX12_isImage_6 : decode cX12_isImage 6 = .ok (.imul, 1) := by decide +kernel
theorem dX12_isImage_7 : decode cX12_isImage 7 = .ok (.iadd, 1) := by decide +kernel
theorem dX12_isImage_8 : decode cX12_isImage 8 = .ok (.istore_n 2, 1) := by decide +kernel
theorem dX12_isImage_9 : decode cX12_isImage 9 = .ok (.aload_n 0, 1) := by decide +kernel
theorem dX12_isImage_10 : decode cX12_isImage 10 = .ok (.getfield 383, 3) := by decide +kernel
theorem dX12_isImage_13 : decode cX12_isImage 13 = .ok (.ifCond .eq 49, 3) := by decide +kernel
theorem dX12_isImage_16 : decode cX12_isImage 16 = .ok (.iload_n 1, 1) := by decide +kernel
theorem dX12_isImage_17 : decode cX12_isImage 17 = .ok (.iload_n 2, 1) := by decide +kernel
theorem dX12_isImage_18 : decode cX12_isImage 18 = .ok (.iconst 3, 1) := by decide +kernel
theorem dX12_isImage_19 : decode cX12_isImage 19 = .ok (.aload_n 0, 1) := by decide +kernel
theorem dX12_isImage_20 : decode cX12_isImage 20 = .ok (.invokevirtual 399, 3) := by decide +kernel
theorem dX12_isImage_23 : decode cX12_isImage 23 = .ok (.imul, 1) := by decide +kernel
theorem dX12_isImage_24 : decode cX12_isImage 24 = .ok (.iadd, 1) := by decide +kernel
theorem dX12_isImage_25 : decode cX12_isImage 25 = .ok (.iconst 1, 1) := by decide +kernel
theorem dX12_isImage_26 : decode cX12_isImage 26 = .ok (.iadd, 1) := by decide +kernel
theorem dX12_isImage_27 : decode cX12_isImage 27 = .ok (.if_icmp .ne 35, 3) := by decide +kernel
theorem dX12_isImage_30 : decode cX12_isImage 30 = .ok (.aload_n 0, 1) := by decide +kernel
theorem dX12_isImage_31 : decode cX12_isImage 31 = .ok (.getfield 7, 3) := by decide +kernel
theorem dX12_isImage_34 : decode cX12_isImage 34 = .ok (.iload_n 1, 1) := by decide +kernel
theorem dX12_isImage_35 : decode cX12_isImage 35 = .ok (.iconst 1, 1) := by decide +kernel
theorem dX12_isImage_36 : decode cX12_isImage 36 = .ok (.isub, 1) := by decide +kernel
theorem dX12_isImage_37 : decode cX12_isImage 37 = .ok (.iaload, 1) := by decide +kernel
theorem dX12_isImage_38 : decode cX12_isImage 38 = .ok (.aload_n 0, 1) := by decide +kernel
theorem dX12_isImage_39 : decode cX12_isImage 39 = .ok (.getfield 7, 3) := by decide +kernel
theorem dX12_isImage_42 : decode cX12_isImage 42 = .ok (.iload_n 1, 1) := by decide +kernel
theorem dX12_isImage_43 : decode cX12_isImage 43 = .ok (.iconst 1, 1) := by decide +kernel
theorem dX12_isImage_44 : decode cX12_isImage 44 = .ok (.isub, 1) := by decide +kernel
theorem dX12_isImage_45 : decode cX12_isImage 45 = .ok (.invokestatic 707, 3) := by decide +kernel
theorem dX12_isImage_48 : decode cX12_isImage 48 = .ok (.if_icmp .ne 14, 3) := by decide +kernel
theorem dX12_isImage_51 : decode cX12_isImage 51 = .ok (.aload_n 0, 1) := by decide +kernel
theorem dX12_isImage_52 : decode cX12_isImage 52 = .ok (.iconst 0, 1) := by decide +kernel
theorem dX12_isImage_53 : decode cX12_isImage 53 = .ok (.invokevirtual 711, 3) := by decide +kernel
theorem dX12_isImage_56 : decode cX12_isImage 56 = .ok (.sipush 999, 3) := by decide +kernel
theorem dX12_isImage_59 : decode cX12_isImage 59 = .ok (.if_icmp .le 5, 3) := by decide +kernel
theorem dX12_isImage_62 : decode cX12_isImage 62 = .ok (.iconst 0, 1) := by decide +kernel
theorem dX12_isImage_63 : decode cX12_isImage 63 = .ok (.ireturn, 1) := by decide +kernel
theorem dX12_isImage_64 : decode cX12_isImage 64 = .ok (.iconst 2, 1) := by decide +kernel
theorem dX12_isImage_65 : decode cX12_isImage 65 = .ok (.istore_n 3, 1) := by decide +kernel
theorem dX12_isImage_66 : decode cX12_isImage 66 = .ok (.iload_n 3, 1) := by decide +kernel
theorem dX12_isImage_67 : decode cX12_isImage 67 = .ok (.iload_n 2, 1) := by decide +kernel
theorem dX12_isImage_68 : decode cX12_isImage 68 = .ok (.if_icmp .ge 22, 3) := by decide +kernel
theorem dX12_isImage_71 : decode cX12_isImage 71 = .ok (.aload_n 0, 1) := by decide +kernel
theorem dX12_isImage_72 : decode cX12_isImage 72 = .ok (.iload_n 3, 1) := by decide +kernel
theorem dX12_isImage_73 : decode cX12_isImage 73 = .ok (.invokevirtual 711, 3) := by decide +kernel
theorem dX12_isImage_76 : decode cX12_isImage 76 = .ok (.sipush 999, 3) := by decide +kernel
theorem dX12_isImage_79 : decode cX12_isImage 79 = .ok (.if_icmp .le 5, 3) := by decide +kernel
theorem dX12_isImage_82 : decode cX12_isImage 82 = .ok (.iconst 0, 1) := by decide +kernel
theorem dX12_isImage_83 : decode cX12_isImage 83 = .ok (.ireturn, 1) := by decide +kernel
theorem dX12_isImage_84 : decode cX12_isImage 84 = .ok (.iinc 3 2, 3) := by decide +kernel
theorem dX12_isImage_87 : decode cX12_isImage 87 = .ok (.goto (-21), 3) := by decide +kernel
theorem dX12_isImage_90 : decode cX12_isImage 90 = .ok (.iload_n 2, 1) := by decide +kernel
theorem dX12_isImage_91 : decode cX12_isImage 91 = .ok (.istore_n 3, 1) := by decide +kernel
theorem dX12_isImage_92 : decode cX12_isImage 92 = .ok (.iload_n 3, 1) := by decide +kernel
theorem dX12_isImage_93 : decode cX12_isImage 93 = .ok (.iload_n 1, 1) := by decide +kernel
theorem dX12_isImage_94 : decode cX12_isImage 94 = .ok (.iconst 1, 1) := by decide +kernel
theorem dX12_isImage_95 : decode cX12_isImage 95 = .ok (.isub, 1) := by decide +kernel
theorem dX12_isImage_96 : decode cX12_isImage 96 = .ok (.if_icmp .ge 35, 3) := by decide +kernel
theorem dX12_isImage_99 : decode cX12_isImage 99 = .ok (.aload_n 0, 1) := by decide +kernel
theorem dX12_isImage_100 : decode cX12_isImage 100 = .ok (.getfield 7, 3) := by decide +kernel
theorem dX12_isImage_103 : decode cX12_isImage 103 = .ok (.iload_n 3, 1) := by decide +kernel
theorem dX12_isImage_104 : decode cX12_isImage 104 = .ok (.iaload, 1) := by decide +kernel
theorem dX12_isImage_105 : decode cX12_isImage 105 = .ok (.bipush 99, 2) := by decide +kernel
theorem dX12_isImage_107 : decode cX12_isImage 107 = .ok (.if_icmp .gt 16, 3) := by decide +kernel
theorem dX12_isImage_110 : decode cX12_isImage 110 = .ok (.aload_n 0, 1) := by decide +kernel
theorem dX12_isImage_111 : decode cX12_isImage 111 = .ok (.iload_n 3, 1) := by decide +kernel
theorem dX12_isImage_112 : decode cX12_isImage 112 = .ok (.iconst 1, 1) := by decide +kernel
theorem dX12_isImage_113 : decode cX12_isImage 113 = .ok (.iadd, 1) := by decide +kernel
theorem dX12_isImage_114 : decode cX12_isImage 114 = .ok (.invokevirtual 711, 3) := by decide +kernel
theorem dX12_isImage_117 : decode cX12_isImage 117 = .ok (.sipush 999, 3) := by decide +kernel
theorem dX12_isImage_120 : decode cX12_isImage 120 = .ok (.if_icmp .le 5, 3) := by decide +kernel
theorem dX12_isImage_123 : decode cX12_isImage 123 = .ok (.iconst 0, 1) := by decide +kernel
theorem dX12_isImage_124 : decode cX12_isImage 124 = .ok (.ireturn, 1) := by decide +kernel
theorem dX12_isImage_125 : decode cX12_isImage 125 = .ok (.iinc 3 3, 3) := by decide +kernel
theorem dX12_isImage_128 : decode cX12_isImage 128 = .ok (.goto (-36), 3) := by decide +kernel
theorem dX12_isImage_131 : decode cX12_isImage 131 = .ok (.iconst 1, 1) := by decide +kernel
theorem dX12_isImage_132 : decode cX12_isImage 132 = .ok (.ireturn, 1) := by decide +kernel
theorem dX12_isOwnHere_0 : decode cX12_isOwnHere 0 = .ok (.aload_n 0, 1) := by decide +kernel
theorem dX12_isOwnHere_1 : decode cX12_isOwnHere 1 = .ok (.aload_n 0, 1) := by decide +kernel
theorem dX12_isOwnHere_2 : decode cX12_isOwnHere 2 = .ok (.getfield 20, 3) := by decide +kernel
theorem dX12_isOwnHere_5 : decode cX12_isOwnHere 5 = .ok (.invokevirtual 280, 3) := by decide +kernel
theorem dX12_isOwnHere_8 : decode cX12_isOwnHere 8 = .ok (.ifCond .ne 58, 3) := by decide +kernel
theorem dX12_isOwnHere_11 : decode cX12_isOwnHere 11 = .ok (.aload_n 0, 1) := by decide +kernel
theorem dX12_isOwnHere_12 : decode cX12_isOwnHere 12 = .ok (.aload_n 0, 1) := by decide +kernel
theorem dX12_isOwnHere_13 : decode cX12_isOwnHere 13 = .ok (.getfield 24, 3) := by decide +kernel
theorem dX12_isOwnHere_16 : decode cX12_isOwnHere 16 = .ok (.invokevirtual 280, 3) := by decide +kernel
theorem dX12_isOwnHere_19 : decode cX12_isOwnHere 19 = .ok (.ifCond .ne 47, 3) := by decide +kernel
theorem dX12_isOwnHere_22 : decode cX12_isOwnHere 22 = .ok (.aload_n 0, 1) := by decide +kernel
theorem dX12_isOwnHere_23 : decode cX12_isOwnHere 23 = .ok (.aload_n 0, 1) := by decide +kernel
theorem dX12_isOwnHere_24 : decode cX12_isOwnHere 24 = .ok (.getfield 27, 3) := by decide +kernel
theorem dX12_isOwnHere_27 : decode cX12_isOwnHere 27 = .ok (.invokevirtual 280, 3) := by decide +kernel
theorem dX12_isOwnHere_30 : decode cX12_isOwnHere 30 = .ok (.ifCond .ne 36, 3) := by decide +kernel
theorem dX12_isOwnHere_33 : decode cX12_isOwnHere 33 = .ok (.aload_n 0, 1) := by decide +kernel
theorem dX12_isOwnHere_34 : decode cX12_isOwnHere 34 = .ok (.aload_n 0, 1) := by decide +kernel
theorem dX12_isOwnHere_35 : decode cX12_isOwnHere 35 = .ok (.getfield 30, 3) := by decide +kernel
theorem dX12_isOwnHere_38 : decode cX12_isOwnHere 38 = .ok (.invokevirtual 280, 3) := by decide +kernel
theorem dX12_isOwnHere_41 : decode cX12_isOwnHere 41 = .ok (.ifCond .ne 25, 3) := by decide +kernel
theorem dX12_isOwnHere_44 : decode cX12_isOwnHere 44 = .ok (.aload_n 0, 1) := by decide +kernel
theorem dX12_isOwnHere_45 : decode cX12_isOwnHere 45 = .ok (.aload_n 0, 1) := by decide +kernel
theorem dX12_isOwnHere_46 : decode cX12_isOwnHere 46 = .ok (.getfield 33, 3) := by decide +kernel
theorem dX12_isOwnHere_49 : decode cX12_isOwnHere 49 = .ok (.invokevirtual 280, 3) := by decide +kernel
theorem dX12_isOwnHere_52 : decode cX12_isOwnHere 52 = .ok (.ifCond .ne 14, 3) := by decide +kernel
theorem dX12_isOwnHere_55 : decode cX12_isOwnHere 55 = .ok (.aload_n 0, 1) := by decide +kernel
theorem dX12_isOwnHere_56 : decode cX12_isOwnHere 56 = .ok (.aload_n 0, 1) := by decide +kernel
theorem dX12_isOwnHere_57 : decode cX12_isOwnHere 57 = .ok (.getfield 36, 3) := by decide +kernel
theorem dX12_isOwnHere_60 : decode cX12_isOwnHere 60 = .ok (.invokevirtual 280, 3) := by decide +kernel
theorem dX12_isOwnHere_63 : decode cX12_isOwnHere 63 = .ok (.ifCond .eq 7, 3) := by decide +kernel
theorem dX12_isOwnHere_66 : decode cX12_isOwnHere 66 = .ok (.iconst 1, 1) := by decide +kernel
theorem dX12_isOwnHere_67 : decode cX12_isOwnHere 67 = .ok (.goto 4, 3) := by decide +kernel
theorem dX12_isOwnHere_70 : decode cX12_isOwnHere 70 = .ok (.iconst 0, 1) := by decide +kernel
theorem dX12_isOwnHere_71 : decode cX12_isOwnHere 71 = .ok (.istore_n 1, 1) := by decide +kernel
theorem dX12_isOwnHere_72 : decode cX12_isOwnHere 72 = .ok (.iload_n 1, 1) := by decide +kernel
theorem dX12_isOwnHere_73 : decode cX12_isOwnHere 73 = .ok (.ifCond .ne 69, 3) := by decide +kernel
theorem dX12_isOwnHere_76 : decode cX12_isOwnHere 76 = .ok (.aload_n 0, 1) := by decide +kernel
theorem dX12_isOwnHere_77 : decode cX12_isOwnHere 77 = .ok (.aload_n 0, 1) := by decide +kernel
theorem dX12_isOwnHere_78 : decode cX12_isOwnHere 78 = .ok (.getfield 39, 3) := by decide +kernel
theorem dX12_isOwnHere_81 : decode cX12_isOwnHere 81 = .ok (.invokevirtual 280, 3) := by decide +kernel
theorem dX12_isOwnHere_84 : decode cX12_isOwnHere 84 = .ok (.ifCond .ne 58, 3) := by decide +kernel
theorem dX12_isOwnHere_87 : decode cX12_isOwnHere 87 = .ok (.aload_n 0, 1) := by decide +kernel
theorem dX12_isOwnHere_88 : decode cX12_isOwnHere 88 = .ok (.aload_n 0, 1) := by decide +kernel
theorem dX12_isOwnHere_89 : decode cX12_isOwnHere 89 = .ok (.getfield 42, 3) := by decide +kernel
theorem dX12_isOwnHere_92 : decode cX12_isOwnHere 92 = .ok (.invokevirtual 280, 3) := by decide +kernel
theorem dX12_isOwnHere_95 : decode cX12_isOwnHere 95 = .ok (.ifCond .ne 47, 3) := by decide +kernel
theorem dX12_isOwnHere_98 : decode cX12_isOwnHere 98 = .ok (.aload_n 0, 1) := by decide +kernel
theorem dX12_isOwnHere_99 : decode cX12_isOwnHere 99 = .ok (.aload_n 0, 1) := by decide +kernel
theorem dX12_isOwnHere_100 : decode cX12_isOwnHere 100 = .ok (.getfield 45, 3) := by decide +kernel
theorem dX12_isOwnHere_103 : decode cX12_isOwnHere 103 = .ok (.invokevirtual 280, 3) := by decide +kernel
theorem dX12_isOwnHere_106 : decode cX12_isOwnHere 106 = .ok (.ifCond .ne 36, 3) := by decide +kernel
theorem dX12_isOwnHere_109 : decode cX12_isOwnHere 109 = .ok (.aload_n 0, 1) := by decide +kernel
theorem dX12_isOwnHere_110 : decode cX12_isOwnHere 110 = .ok (.aload_n 0, 1) := by decide +kernel
theorem dX12_isOwnHere_111 : decode cX12_isOwnHere 111 = .ok (.getfield 48, 3) := by decide +kernel
theorem dX12_isOwnHere_114 : decode cX12_isOwnHere 114 = .ok (.invokevirtual 280, 3) := by decide +kernel
theorem dX12_isOwnHere_117 : decode cX12_isOwnHere 117 = .ok (.ifCond .ne 25, 3) := by decide +kernel
theorem dX12_isOwnHere_120 : decode cX12_isOwnHere 120 = .ok (.aload_n 0, 1) := by decide +kernel
theorem dX12_isOwnHere_121 : decode cX12_isOwnHere 121 = .ok (.aload_n 0, 1) := by decide +kernel
theorem dX12_isOwnHere_122 : decode cX12_isOwnHere 122 = .ok (.getfield 51, 3) := by decide +kernel
theorem dX12_isOwnHere_125 : decode cX12_isOwnHere 125 = .ok (.invokevirtual 280, 3) := by decide +kernel
theorem dX12_isOwnHere_128 : decode cX12_isOwnHere 128 = .ok (.ifCond .ne 14, 3) := by decide +kernel
theorem dX12_isOwnHere_131 : decode cX12_isOwnHere 131 = .ok (.aload_n 0, 1) := by decide +kernel
theorem dX12_isOwnHere_132 : decode cX12_isOwnHere 132 = .ok (.aload_n 0, 1) := by decide +kernel
theorem dX12_isOwnHere_133 : decode cX12_isOwnHere 133 = .ok (.getfield 54, 3) := by decide +kernel
theorem dX12_isOwnHere_136 : decode cX12_isOwnHere 136 = .ok (.invokevirtual 280, 3) := by decide +kernel
theorem dX12_isOwnHere_139 : decode cX12_isOwnHere 139 = .ok (.ifCond .eq 7, 3) := by decide +kernel
theorem dX12_isOwnHere_142 : decode cX12_isOwnHere 142 = .ok (.iconst 1, 1) := by decide +kernel
theorem dX12_isOwnHere_143 : decode cX12_isOwnHere 143 = .ok (.goto 4, 3) := by decide +kernel
theorem dX12_isOwnHere_146 : decode cX12_isOwnHere 146 = .ok (.iconst 0, 1) := by decide +kernel
theorem dX12_isOwnHere_147 : decode cX12_isOwnHere 147 = .ok (.istore_n 1, 1) := by decide +kernel
theorem dX12_isOwnHere_148 : decode cX12_isOwnHere 148 = .ok (.iload_n 1, 1) := by decide +kernel
theorem dX12_isOwnHere_149 : decode cX12_isOwnHere 149 = .ok (.ifCond .ne 69, 3) := by decide +kernel
theorem dX12_isOwnHere_152 : decode cX12_isOwnHere 152 = .ok (.aload_n 0, 1) := by decide +kernel
theorem dX12_isOwnHere_153 : decode cX12_isOwnHere 153 = .ok (.aload_n 0, 1) := by decide +kernel
theorem dX12_isOwnHere_154 : decode cX12_isOwnHere 154 = .ok (.getfield 57, 3) := by decide +kernel
theorem dX12_isOwnHere_157 : decode cX12_isOwnHere 157 = .ok (.invokevirtual 280, 3) := by decide +kernel
theorem dX12_isOwnHere_160 : decode cX12_isOwnHere 160 = .ok (.ifCond .ne 58, 3) := by decide +kernel
theorem dX12_isOwnHere_163 : decode cX12_isOwnHere 163 = .ok (.aload_n 0, 1) := by decide +kernel
theorem dX12_isOwnHere_164 : decode cX12_isOwnHere 164 = .ok (.aload_n 0, 1) := by decide +kernel
theorem dX12_isOwnHere_165 : decode cX12_isOwnHere 165 = .ok (.getfield 60, 3) := by decide +kernel
theorem dX12_isOwnHere_168 : decode cX12_isOwnHere 168 = .ok (.invokevirtual 280, 3) := by decide +kernel
theorem dX12_isOwnHere_171 : decode cX12_isOwnHere 171 = .ok (.ifCond .ne 47, 3) := by decide +kernel
theorem dX12_isOwnHere_174 : decode cX12_isOwnHere 174 = .ok (.aload_n 0, 1) := by decide +kernel
theorem dX12_isOwnHere_175 : decode cX12_isOwnHere 175 = .ok (.aload_n 0, 1) := by decide +kernel
theorem dX12_isOwnHere_176 : decode cX12_isOwnHere 176 = .ok (.getfield 63, 3) := by decide +kernel
theorem dX12_isOwnHere_179 : decode cX12_isOwnHere 179 = .ok (.invokevirtual 280, 3) := by decide +kernel
theorem dX12_isOwnHere_182 : decode cX12_isOwnHere 182 = .ok (.ifCond .ne 36, 3) := by decide +kernel
theorem dX12_isOwnHere_185 : decode cX12_isOwnHere 185 = .ok (.aload_n 0, 1) := by decide +kernel
theorem dX12_isOwnHere_186 : decode cX12_isOwnHere 186 = .ok (.aload_n 0, 1) := by decide +kernel
theorem dX12_isOwnHere_187 : decode cX12_isOwnHere 187 = .ok (.getfield 66, 3) := by decide +kernel
theorem dX12_isOwnHere_190 : decode cX12_isOwnHere 190 = .ok (.invokevirtual 280, 3) := by decide +kernel
theorem dX12_isOwnHere_193 : decode cX12_isOwnHere 193 = .ok (.ifCond .ne 25, 3) := by decide +kernel
theorem dX12_isOwnHere_196 : decode cX12_isOwnHere 196 = .ok (.aload_n 0, 1) := by decide +kernel
theorem dX12_isOwnHere_197 : decode cX12_isOwnHere 197 = .ok (.aload_n 0, 1) := by decide +kernel
theorem dX12_isOwnHere_198 : decode cX12_isOwnHere 198 = .ok (.getfield 69, 3) := by decide +kernel
theorem dX12_isOwnHere_201 : decode cX12_isOwnHere 201 = .ok (.invokevirtual 280, 3) := by decide +kernel
theorem dX12_isOwnHere_204 : decode cX12_isOwnHere 204 = .ok (.ifCond .ne 14, 3) := by decide +kernel
theorem dX12_isOwnHere_207 : decode cX12_isOwnHere 207 = .ok (.aload_n 0, 1) := by decide +kernel
theorem dX12_isOwnHere_208 : decode cX12_isOwnHere 208 = .ok (.aload_n 0, 1) := by decide +kernel
theorem dX12_isOwnHere_209 : decode cX12_isOwnHere 209 = .ok (.getfield 72, 3) := by decide +kernel
theorem dX12_isOwnHere_212 : decode cX12_isOwnHere 212 = .ok (.invokevirtual 280, 3) := by decide +kernel
theorem dX12_isOwnHere_215 : decode cX12_isOwnHere 215 = .ok (.ifCond .eq 7, 3) := by decide +kernel
theorem dX12_isOwnHere_218 : decode cX12_isOwnHere 218 = .ok (.iconst 1, 1) := by decide +kernel
theorem dX12_isOwnHere_219 : decode cX12_isOwnHere 219 = .ok (.goto 4, 3) := by decide +kernel
theorem dX12_isOwnHere_222 : decode cX12_isOwnHere 222 = .ok (.iconst 0, 1) := by decide +kernel
theorem dX12_isOwnHere_223 : decode cX12_isOwnHere 223 = .ok (.istore_n 1, 1) := by decide +kernel
theorem dX12_isOwnHere_224 : decode cX12_isOwnHere 224 = .ok (.iload_n 1, 1) := by decide +kernel
theorem dX12_isOwnHere_225 : decode cX12_isOwnHere 225 = .ok (.ifCond .ne 69, 3) := by decide +kernel
theorem dX12_isOwnHere_228 : decode cX12_isOwnHere 228 = .ok (.aload_n 0, 1) := by decide +kernel
theorem dX12_isOwnHere_229 : decode cX12_isOwnHere 229 = .ok (.aload_n 0, 1) := by decide +kernel
theorem dX12_isOwnHere_230 : decode cX12_isOwnHere 230 = .ok (.getfield 75, 3) := by decide +kernel
theorem dX12_isOwnHere_233 : decode cX12_isOwnHere 233 = .ok (.invokevirtual 280, 3) := by decide +kernel
theorem dX12_isOwnHere_236 : decode cX12_isOwnHere 236 = .ok (.ifCond .ne 58, 3) := by decide +kernel
theorem dX12_isOwnHere_239 : decode cX12_isOwnHere 239 = .ok (.aload_n 0, 1) := by decide +kernel
theorem dX12_isOwnHere_240 : decode cX12_isOwnHere 240 = .ok (.aload_n 0, 1) := by decide +kernel
theorem dX12_isOwnHere_241 : decode cX12_isOwnHere 241 = .ok (.getfield 78, 3) := by decide +kernel
theorem dX12_isOwnHere_244 : decode cX12_isOwnHere 244 = .ok (.invokevirtual 280, 3) := by decide +kernel
theorem dX12_isOwnHere_247 : decode cX12_isOwnHere 247 = .ok (.ifCond .ne 47, 3) := by decide +kernel
theorem dX12_isOwnHere_250 : decode cX12_isOwnHere 250 = .ok (.aload_n 0, 1) := by decide +kernel
theorem dX12_isOwnHere_251 : decode cX12_isOwnHere 251 = .ok (.aload_n 0, 1) := by decide +kernel
theorem dX12_isOwnHere_252 : decode cX12_isOwnHere 252 = .ok (.getfield 81, 3) := by decide +kernel
theorem dX12_isOwnHere_255 : decode cX12_isOwnHere 255 = .ok (.invokevirtual 280, 3) := by decide +kernel
theorem dX12_isOwnHere_258 : decode cX12_isOwnHere 258 = .ok (.ifCond .ne 36, 3) := by decide +kernel
theorem dX12_isOwnHere_261 : decode cX12_isOwnHere 261 = .ok (.aload_n 0, 1) := by decide +kernel
theorem dX12_isOwnHere_262 : decode cX12_isOwnHere 262 = .ok (.aload_n 0, 1) := by decide +kernel
theorem dX12_isOwnHere_263 : decode cX12_isOwnHere 263 = .ok (.getfield 84, 3) := by decide +kernel
theorem dX12_isOwnHere_266 : decode cX12_isOwnHere 266 = .ok (.invokevirtual 280, 3) := by decide +kernel
theorem dX12_isOwnHere_269 : decode cX12_isOwnHere 269 = .ok (.ifCond .ne 25, 3) := by decide +kernel
theorem dX12_isOwnHere_272 : decode cX12_isOwnHere 272 = .ok (.aload_n 0, 1) := by decide +kernel
theorem dX12_isOwnHere_273 : decode cX12_isOwnHere 273 = .ok (.aload_n 0, 1) := by decide +kernel
theorem dX12_isOwnHere_274 : decode cX12_isOwnHere 274 = .ok (.getfield 87, 3) := by decide +kernel
theorem dX12_isOwnHere_277 : decode cX12_isOwnHere 277 = .ok (.invokevirtual 280, 3) := by decide +kernel
theorem dX12_isOwnHere_280 : decode cX12_isOwnHere 280 = .ok (.ifCond .ne 14, 3) := by decide +kernel
theorem dX12_isOwnHere_283 : decode cX12_isOwnHere 283 = .ok (.aload_n 0, 1) := by decide +kernel
theorem dX12_isOwnHere_284 : decode cX12_isOwnHere 284 = .ok (.aload_n 0, 1) := by decide +kernel
theorem dX12_isOwnHere_285 : decode cX12_isOwnHere 285 = .ok (.getfield 90, 3) := by decide +kernel
theorem dX12_isOwnHere_288 : decode cX12_isOwnHere 288 = .ok (.invokevirtual 280, 3) := by decide +kernel
theorem dX12_isOwnHere_291 : decode cX12_isOwnHere 291 = .ok (.ifCond .eq 7, 3) := by decide +kernel
theorem dX12_isOwnHere_294 : decode cX12_isOwnHere 294 = .ok (.iconst 1, 1) := by decide +kernel
theorem dX12_isOwnHere_295 : decode cX12_isOwnHere 295 = .ok (.goto 4, 3) := by decide +kernel
theorem dX12_isOwnHere_298 : decode cX12_isOwnHere 298 = .ok (.iconst 0, 1) := by decide +kernel
theorem dX12_isOwnHere_299 : decode cX12_isOwnHere 299 = .ok (.istore_n 1, 1) := by decide +kernel
theorem dX12_isOwnHere_300 : decode cX12_isOwnHere 300 = .ok (.iload_n 1, 1) := by decide +kernel
theorem dX12_isOwnHere_301 : decode cX12_isOwnHere 301 = .ok (.ifCond .ne 47, 3) := by decide +kernel
theorem dX12_isOwnHere_304 : decode cX12_isOwnHere 304 = .ok (.aload_n 0, 1) := by decide +kernel
theorem dX12_isOwnHere_305 : decode cX12_isOwnHere 305 = .ok (.aload_n 0, 1) := by decide +kernel
theorem dX12_isOwnHere_306 : decode cX12_isOwnHere 306 = .ok (.getfield 93, 3) := by decide +kernel
theorem dX12_isOwnHere_309 : decode cX12_isOwnHere 309 = .ok (.invokevirtual 280, 3) := by decide +kernel
theorem dX12_isOwnHere_312 : decode cX12_isOwnHere 312 = .ok (.ifCond .ne 36, 3) := by decide +kernel
theorem dX12_isOwnHere_315 : decode cX12_isOwnHere 315 = .ok (.aload_n 0, 1) := by decide +kernel
theorem dX12_isOwnHere_316 : decode cX12_isOwnHere 316 = .ok (.aload_n 0, 1) := by decide +kernel
theorem dX12_isOwnHere_317 : decode cX12_isOwnHere 317 = .ok (.getfield 96, 3) := by decide +kernel
theorem dX12_isOwnHere_320 : decode cX12_isOwnHere 320 = .ok (.invokevirtual 280, 3) := by decide +kernel
theorem dX12_isOwnHere_323 : decode cX12_isOwnHere 323 = .ok (.ifCond .ne 25, 3) := by decide +kernel
theorem dX12_isOwnHere_326 : decode cX12_isOwnHere 326 = .ok (.aload_n 0, 1) := by decide +kernel
theorem dX12_isOwnHere_327 : decode cX12_isOwnHere 327 = .ok (.aload_n 0, 1) := by decide +kernel
theorem dX12_isOwnHere_328 : decode cX12_isOwnHere 328 = .ok (.getfield 99, 3) := by decide +kernel
theorem dX12_isOwnHere_331 : decode cX12_isOwnHere 331 = .ok (.invokevirtual 280, 3) := by decide +kernel
theorem dX12_isOwnHere_334 : decode cX12_isOwnHere 334 = .ok (.ifCond .ne 14, 3) := by decide +kernel
theorem dX12_isOwnHere_337 : decode cX12_isOwnHere 337 = .ok (.aload_n 0, 1) := by decide +kernel
theorem dX12_isOwnHere_338 : decode cX12_isOwnHere 338 = .ok (.aload_n 0, 1) := by decide +kernel
theorem dX12_isOwnHere_339 : decode cX12_isOwnHere 339 = .ok (.getfield 102, 3) := by decide +kernel
theorem dX12_isOwnHere_342 : decode cX12_isOwnHere 342 = .ok (.invokevirtual 280, 3) := by decide +kernel
theorem dX12_isOwnHere_345 : decode cX12_isOwnHere 345 = .ok (.ifCond .eq 7, 3) := by decide +kernel
theorem dX12_isOwnHere_348 : decode cX12_isOwnHere 348 = .ok (.iconst 1, 1) := by decide +kernel
theorem dX12_isOwnHere_349 : decode cX12_isOwnHere 349 = .ok (.goto 4, 3) := by decide +kernel
theorem dX12_isOwnHere_352 : decode cX12_isOwnHere 352 = .ok (.iconst 0, 1) := by decide +kernel
theorem dX12_isOwnHere_353 : decode cX12_isOwnHere 353 = .ok (.istore_n 1, 1) := by decide +kernel
theorem dX12_isOwnHere_354 : decode cX12_isOwnHere 354 = .ok (.iload_n 1, 1) := by decide +kernel
theorem dX12_isOwnHere_355 : decode cX12_isOwnHere 355 = .ok (.ireturn, 1) := by decide +kernel
theorem dX12_isRefused_0 : decode cX12_isRefused 0 = .ok (.aload_n 0, 1) := by decide +kernel
theorem dX12_isRefused_1 : decode cX12_isRefused 1 = .ok (.getfield 17, 3) := by decide +kernel
theorem dX12_isRefused_4 : decode cX12_isRefused 4 = .ok (.iload_n 1, 1) := by decide +kernel
theorem dX12_isRefused_5 : decode cX12_isRefused 5 = .ok (.dup2, 1) := by decide +kernel
theorem dX12_isRefused_6 : decode cX12_isRefused 6 = .ok (.iaload, 1) := by decide +kernel
theorem dX12_isRefused_7 : decode cX12_isRefused 7 = .ok (.iconst 1, 1) := by decide +kernel
theorem dX12_isRefused_8 : decode cX12_isRefused 8 = .ok (.iadd, 1) := by decide +kernel
theorem dX12_isRefused_9 : decode cX12_isRefused 9 = .ok (.iastore, 1) := by decide +kernel
theorem dX12_isRefused_10 : decode cX12_isRefused 10 = .ok (.iconst 0, 1) := by decide +kernel
theorem dX12_isRefused_11 : decode cX12_isRefused 11 = .ok (.ireturn, 1) := by decide +kernel
theorem dX12_isWriting_0 : decode cX12_isWriting 0 = .ok (.iconst 0, 1) := by decide +kernel
theorem dX12_isWriting_1 : decode cX12_isWriting 1 = .ok (.istore_n 3, 1) := by decide +kernel
theorem dX12_isWriting_2 : decode cX12_isWriting 2 = .ok (.iload_n 3, 1) := by decide +kernel
theorem dX12_isWriting_3 : decode cX12_isWriting 3 = .ok (.aload_n 0, 1) := by decide +kernel
theorem dX12_isWriting_4 : decode cX12_isWriting 4 = .ok (.getfield 142, 3) := by decide +kernel
theorem dX12_isWriting_7 : decode cX12_isWriting 7 = .ok (.iload_n 1, 1) := by decide +kernel
theorem dX12_isWriting_8 : decode cX12_isWriting 8 = .ok (.iaload, 1) := by decide +kernel
theorem dX12_isWriting_9 : decode cX12_isWriting 9 = .ok (.if_icmp .ge 27, 3) := by decide +kernel
theorem dX12_isWriting_12 : decode cX12_isWriting 12 = .ok (.aload_n 0, 1) := by decide +kernel
theorem dX12_isWriting_13 : decode cX12_isWriting 13 = .ok (.getfield 139, 3) := by decide +kernel
theorem dX12_isWriting_16 : decode cX12_isWriting 16 = .ok (.sipush 2000, 3) := by decide +kernel
theorem dX12_isWriting_19 : decode cX12_isWriting 19 = .ok (.iload_n 1, 1) := by decide +kernel
theorem dX12_isWriting_20 : decode cX12_isWriting 20 = .ok (.imul, 1) := by decide +kernel
theorem dX12_isWriting_21 : decode cX12_isWriting 21 = .ok (.iload_n 3, 1) := by decide +kernel
theorem dX12_isWriting_22 : decode cX12_isWriting 22 = .ok (.iadd, 1) := by decide +kernel
theorem dX12_isWriting_23 : decode cX12_isWriting 23 = .ok (.iaload, 1) := by decide +kernel
theorem dX12_isWriting_24 : decode cX12_isWriting 24 = .ok (.iload_n 2, 1) := by decide +kernel
theorem dX12_isWriting_25 : decode cX12_isWriting 25 = .ok (.if_icmp .ne 5, 3) := by decide +kernel
theorem dX12_isWriting_28 : decode cX12_isWriting 28 = .ok (.iconst 1, 1) := by decide +kernel
theorem dX12_isWriting_29 : decode cX12_isWriting 29 = .ok (.ireturn, 1) := by decide +kernel
theorem dX12_isWriting_30 : decode cX12_isWriting 30 = .ok (.iinc 3 1, 3) := by decide +kernel
theorem dX12_isWriting_33 : decode cX12_isWriting 33 = .ok (.goto (-31), 3) := by decide +kernel
theorem dX12_isWriting_36 : decode cX12_isWriting 36 = .ok (.iconst 0, 1) := by decide +kernel
theorem dX12_isWriting_37 : decode cX12_isWriting 37 = .ok (.ireturn, 1) := by decide +kernel
theorem dX12_kept_0 : decode cX12_kept 0 = .ok (.iload_n 1, 1) := by decide +kernel
theorem dX12_kept_1 : decode cX12_kept 1 = .ok (.i2l, 1) := by decide +kernel
theorem dX12_kept_2 : decode cX12_kept 2 = .ok (.lconst 0, 1) := by decide +kernel
theorem dX12_kept_3 : decode cX12_kept 3 = .ok (.aload_n 0, 1) := by decide +kernel
theorem dX12_kept_4 : decode cX12_kept 4 = .ok (.getfield 127, 3) := by decide +kernel
theorem dX12_kept_7 : decode cX12_kept 7 = .ok (.bipush 37, 2) := by decide +kernel
theorem dX12_kept_9 : decode cX12_kept 9 = .ok (.iaload, 1) := by decide +kernel
theorem dX12_kept_10 : decode cX12_kept 10 = .ok (.iconst 1, 1) := by decide +kernel
theorem dX12_kept_11 : decode cX12_kept 11 = .ok (.isub, 1) := by decide +kernel
theorem dX12_kept_12 : decode cX12_kept 12 = .ok (.i2l, 1) := by decide +kernel
theorem dX12_kept_13 : decode cX12_kept 13 = .ok (.invokestatic 300, 3) := by decide +kernel
theorem dX12_kept_16 : decode cX12_kept 16 = .ok (.ifCond .eq 31, 3) := by decide +kernel
theorem dX12_kept_19 : decode cX12_kept 19 = .ok (.iload_n 2, 1) := by decide +kernel
theorem dX12_kept_20 : decode cX12_kept 20 = .ok (.i2l, 1) := by decide +kernel
theorem dX12_kept_21 : decode cX12_kept 21 = .ok (.lconst 0, 1) := by decide +kernel
theorem dX12_kept_22 : decode cX12_kept 22 = .ok (.ldc2_w 514, 3) := by decide +kernel
theorem dX12_kept_25 : decode cX12_kept 25 = .ok (.invokestatic 300, 3) := by decide +kernel
theorem dX12_kept_28 : decode cX12_kept 28 = .ok (.ifCond .eq 19, 3) := by decide +kernel
theorem dX12_kept_31 : decode cX12_kept 31 = .ok (.aload_n 0, 1) := by decide +kernel
theorem dX12_kept_32 : decode cX12_kept 32 = .ok (.getfield 127, 3) := by decide +kernel
theorem dX12_kept_35 : decode cX12_kept 35 = .ok (.bipush 38, 2) := by decide +kernel
theorem dX12_kept_37 : decode cX12_kept 37 = .ok (.iconst 3, 1) := by decide +kernel
theorem dX12_kept_38 : decode cX12_kept 38 = .ok (.iload_n 1, 1) := by decide +kernel
theorem dX12_kept_39 : decode cX12_kept 39 = .ok (.imul, 1) := by decide +kernel
theorem dX12_kept_40 : decode cX12_kept 40 = .ok (.iadd, 1) := by decide +kernel
theorem dX12_kept_41 : decode cX12_kept 41 = .ok (.iload_n 2, 1) := by decide +kernel
theorem dX12_kept_42 : decode cX12_kept 42 = .ok (.iadd, 1) := by decide +kernel
theorem dX12_kept_43 : decode cX12_kept 43 = .ok (.iaload, 1) := by decide +kernel
theorem dX12_kept_44 : decode cX12_kept 44 = .ok (.goto 4, 3) := by decide +kernel
theorem dX12_kept_47 : decode cX12_kept 47 = .ok (.iconst (-1), 1) := by decide +kernel
theorem dX12_kept_48 : decode cX12_kept 48 = .ok (.ireturn, 1) := by decide +kernel
theorem dX12_later_0 : decode cX12_later 0 = .ok (.aload_n 0, 1) := by decide +kernel
theorem dX12_later_1 : decode cX12_later 1 = .ok (.iload_n 1, 1) := by decide +kernel
theorem dX12_later_2 : decode cX12_later 2 = .ok (.invokevirtual 502, 3) := by decide +kernel
theorem dX12_later_5 : decode cX12_later 5 = .ok (.ifCond .eq 14, 3) := by decide +kernel
theorem dX12_later_8 : decode cX12_later 8 = .ok (.aload_n 0, 1) := by decide +kernel
theorem dX12_later_9 : decode cX12_later 9 = .ok (.iload_n 2, 1) := by decide +kernel
theorem dX12_later_10 : decode cX12_later 10 = .ok (.iconst 0, 1) := by decide +kernel
theorem dX12_later_11 : decode cX12_later 11 = .ok (.bipush 40, 2) := by decide +kernel
theorem dX12_later_13 : decode cX12_later 13 = .ok (.invokevirtual 545, 3) := by decide +kernel
theorem dX12_later_16 : decode cX12_later 16 = .ok (.ifCond .ne 5, 3) := by decide +kernel
theorem dX12_later_19 : decode cX12_later 19 = .ok (.iconst (-1), 1) := by decide +kernel
theorem dX12_later_20 : decode cX12_later 20 = .ok (.ireturn, 1) := by decide +kernel
theorem dX12_later_21 : decode cX12_later 21 = .ok (.aload_n 0, 1) := by decide +kernel
theorem dX12_later_22 : decode cX12_later 22 = .ok (.invokevirtual 549, 3) := by decide +kernel
theorem dX12_later_25 : decode cX12_later 25 = .ok (.aload_n 0, 1) := by decide +kernel
theorem dX12_later_26 : decode cX12_later 26 = .ok (.iload_n 2, 1) := by decide +kernel
theorem dX12_later_27 : decode cX12_later 27 = .ok (.invokevirtual 552, 3) := by decide +kernel
theorem dX12_later_30 : decode cX12_later 30 = .ok (.aload_n 0, 1) := by decide +kernel
theorem dX12_later_31 : decode cX12_later 31 = .ok (.iload_n 1, 1) := by decide +kernel
theorem dX12_later_32 : decode cX12_later 32 = .ok (.invokevirtual 474, 3) := by decide +kernel
theorem dX12_later_35 : decode cX12_later 35 = .ok (.istore_n 3, 1) := by decide +kernel
theorem dX12_later_36 : decode cX12_later 36 = .ok (.aload_n 0, 1) := by decide +kernel
theorem dX12_later_37 : decode cX12_later 37 = .ok (.invokevirtual 555, 3) := by decide +kernel
theorem dX12_later_40 : decode cX12_later 40 = .ok (.iload_n 3, 1) := by decide +kernel
theorem dX12_later_41 : decode cX12_later 41 = .ok (.ireturn, 1) := by decide +kernel
theorem dX12_laysDue_0 : decode cX12_laysDue 0 = .ok (.aload_n 0, 1) := by decide +kernel
theorem dX12_laysDue_1 : decode cX12_laysDue 1 = .ok (.aload_n 0, 1) := by decide +kernel
theorem dX12_laysDue_2 : decode cX12_laysDue 2 = .ok (.getfield 112, 3) := by decide +kernel
theorem dX12_laysDue_5 : decode cX12_laysDue 5 = .ok (.bipush 12, 2) := by decide +kernel
theorem dX12_laysDue_7 : decode cX12_laysDue 7 = .ok (.iconst 2, 1) := by decide +kernel
theorem dX12_laysDue_8 : decode cX12_laysDue 8 = .ok (.iload_n 1, 1) := by decide +kernel
theorem dX12_laysDue_9 : decode cX12_laysDue 9 = .ok (.imul, 1) := by decide +kernel
theorem dX12_laysDue_10 : decode cX12_laysDue 10 = .ok (.iadd, 1) := by decide +kernel
theorem dX12_laysDue_11 : decode cX12_laysDue 11 = .ok (.iaload, 1) := by decide +kernel
theorem dX12_laysDue_12 : decode cX12_laysDue 12 = .ok (.aload_n 0, 1) := by decide +kernel
theorem dX12_laysDue_13 : decode cX12_laysDue 13 = .ok (.getfield 112, 3) := by decide +kernel
theorem dX12_laysDue_16 : decode cX12_laysDue 16 = .ok (.bipush 13, 2) := by decide +kernel
theorem dX12_laysDue_18 : decode cX12_laysDue 18 = .ok (.iconst 2, 1) := by decide +kernel
theorem dX12_laysDue_19 : decode cX12_laysDue 19 = .ok (.iload_n 1, 1) := by decide +kernel
theorem dX12_laysDue_20 : decode cX12_laysDue 20 = .ok (.imul, 1) := by decide +kernel
theorem dX12_laysDue_21 : decode cX12_laysDue 21 = .ok (.iadd, 1) := by decide +kernel
theorem dX12_laysDue_22 : decode cX12_laysDue 22 = .ok (.iaload, 1) := by decide +kernel
theorem dX12_laysDue_23 : decode cX12_laysDue 23 = .ok (.invokestatic 413, 3) := by decide +kernel
theorem dX12_laysDue_26 : decode cX12_laysDue 26 = .ok (.invokevirtual 417, 3) := by decide +kernel
theorem dX12_laysDue_29 : decode cX12_laysDue 29 = .ok (.aload_n 0, 1) := by decide +kernel
theorem dX12_laysDue_30 : decode cX12_laysDue 30 = .ok (.getfield 142, 3) := by decide +kernel
theorem dX12_laysDue_33 : decode cX12_laysDue 33 = .ok (.iload_n 1, 1) := by decide +kernel
theorem dX12_laysDue_34 : decode cX12_laysDue 34 = .ok (.aload_n 0, 1) := by decide +kernel
theorem dX12_laysDue_35 : decode cX12_laysDue 35 = .ok (.getfield 404, 3) := by decide +kernel
theorem dX12_laysDue_38 : decode cX12_laysDue 38 = .ok (.iastore, 1) := by decide +kernel
theorem dX12_laysDue_39 : decode cX12_laysDue 39 = .ok (.aload_n 0, 1) := by decide +kernel
theorem dX12_laysDue_40 : decode cX12_laysDue 40 = .ok (.getfield 145, 3) := by decide +kernel
theorem dX12_laysDue_43 : decode cX12_laysDue 43 = .ok (.iload_n 1, 1) := by decide +kernel
theorem dX12_laysDue_44 : decode cX12_laysDue 44 = .ok (.iconst 0, 1) := by decide +kernel
theorem dX12_laysDue_45 : decode cX12_laysDue 45 = .ok (.iastore, 1) := by decide +kernel
theorem dX12_laysDue_46 : decode cX12_laysDue 46 = .ok (.iconst 0, 1) := by decide +kernel
theorem dX12_laysDue_47 : decode cX12_laysDue 47 = .ok (.istore_n 2, 1) := by decide +kernel
theorem dX12_laysDue_48 : decode cX12_laysDue 48 = .ok (.iload_n 2, 1) := by decide +kernel
theorem dX12_laysDue_49 : decode cX12_laysDue 49 = .ok (.aload_n 0, 1) := by decide +kernel
theorem dX12_laysDue_50 : decode cX12_laysDue 50 = .ok (.getfield 404, 3) := by decide +kernel
theorem dX12_laysDue_53 : decode cX12_laysDue 53 = .ok (.if_icmp .ge 42, 3) := by decide +kernel
theorem dX12_laysDue_56 : decode cX12_laysDue 56 = .ok (.aload_n 0, 1) := by decide +kernel
theorem dX12_laysDue_57 : decode cX12_laysDue 57 = .ok (.getfield 139, 3) := by decide +kernel
theorem dX12_laysDue_60 : decode cX12_laysDue 60 = .ok (.sipush 2000, 3) := by decide +kernel
theorem dX12_laysDue_63 : decode cX12_laysDue 63 = .ok (.iload_n 1, 1) := by decide +kernel
theorem dX12_laysDue_64 : decode cX12_laysDue 64 = .ok (.imul, 1) := by decide +kernel
theorem dX12_laysDue_65 : decode cX12_laysDue 65 = .ok (.iload_n 2, 1) := by decide +kernel
theorem dX12_laysDue_66 : decode cX12_laysDue 66 = .ok (.iadd, 1) := by decide +kernel
theorem dX12_laysDue_67 : decode cX12_laysDue 67 = .ok (.aload_n 0, 1) := by decide +kernel
theorem dX12_laysDue_68 : decode cX12_laysDue 68 = .ok (.getfield 130, 3) := by decide +kernel
theorem dX12_laysDue_71 : decode cX12_laysDue 71 = .ok (.iload_n 2, 1) := by decide +kernel
theorem dX12_laysDue_72 : decode cX12_laysDue 72 = .ok (.iaload, 1) := by decide +kernel
theorem dX12_laysDue_73 : decode cX12_laysDue 73 = .ok (.iastore, 1) := by decide +kernel
theorem dX12_laysDue_74 : decode cX12_laysDue 74 = .ok (.aload_n 0, 1) := by decide +kernel
theorem dX12_laysDue_75 : decode cX12_laysDue 75 = .ok (.getfield 145, 3) := by decide +kernel
theorem dX12_laysDue_78 : decode cX12_laysDue 78 = .ok (.iload_n 1, 1) := by decide +kernel
theorem dX12_laysDue_79 : decode cX12_laysDue 79 = .ok (.dup2, 1) := by decide +kernel
theorem dX12_laysDue_80 : decode cX12_laysDue 80 = .ok (.iaload, 1) := by decide +kernel
theorem dX12_laysDue_81 : decode cX12_laysDue 81 = .ok (.aload_n 0, 1) := by decide +kernel
theorem dX12_laysDue_82 : decode cX12_laysDue 82 = .ok (.getfield 130, 3) := by decide +kernel
theorem dX12_laysDue_85 : decode cX12_laysDue 85 = .ok (.iload_n 2, 1) := by decide +kernel
theorem dX12_laysDue_86 : decode cX12_laysDue 86 = .ok (.iaload, 1) := by decide +kernel
theorem dX12_laysDue_87 : decode cX12_laysDue 87 = .ok (.ior, 1) := by decide +kernel
theorem dX12_laysDue_88 : decode cX12_laysDue 88 = .ok (.iastore, 1) := by decide +kernel
theorem dX12_laysDue_89 : decode cX12_laysDue 89 = .ok (.iinc 2 1, 3) := by decide +kernel
theorem dX12_laysDue_92 : decode cX12_laysDue 92 = .ok (.goto (-44), 3) := by decide +kernel
theorem dX12_laysDue_95 : decode cX12_laysDue 95 = .ok (.return_, 1) := by decide +kernel
theorem dX12_left_0 : decode cX12_left 0 = .ok (.aload_n 0, 1) := by decide +kernel
theorem dX12_left_1 : decode cX12_left 1 = .ok (.iload_n 1, 1) := by decide +kernel
theorem dX12_left_2 : decode cX12_left 2 = .ok (.i2l, 1) := by decide +kernel
theorem dX12_left_3 : decode cX12_left 3 = .ok (.invokevirtual 510, 3) := by decide +kernel
theorem dX12_left_6 : decode cX12_left 6 = .ok (.ifCond .eq 14, 3) := by decide +kernel
theorem dX12_left_9 : decode cX12_left 9 = .ok (.aload_n 0, 1) := by decide +kernel
theorem dX12_left_10 : decode cX12_left 10 = .ok (.iload_n 2, 1) := by decide +kernel
theorem dX12_left_11 : decode cX12_left 11 = .ok (.iconst 0, 1) := by decide +kernel
theorem dX12_left_12 : decode cX12_left 12 = .ok (.bipush 40, 2) := by decide +kernel
theorem dX12_left_14 : decode cX12_left 14 = .ok (.invokevirtual 545, 3) := by decide +kernel
theorem dX12_left_17 : decode cX12_left 17 = .ok (.ifCond .ne 5, 3) := by decide +kernel
theorem dX12_left_20 : decode cX12_left 20 = .ok (.iconst (-1), 1) := by decide +kernel
theorem dX12_left_21 : decode cX12_left 21 = .ok (.ireturn, 1) := by decide +kernel
theorem dX12_left_22 : decode cX12_left 22 = .ok (.aload_n 0, 1) := by decide +kernel
theorem dX12_left_23 : decode cX12_left 23 = .ok (.invokevirtual 549, 3) := by decide +kernel
theorem dX12_left_26 : decode cX12_left 26 = .ok (.aload_n 0, 1) := by decide +kernel
theorem dX12_left_27 : decode cX12_left 27 = .ok (.iload_n 2, 1) := by decide +kernel
theorem dX12_left_28 : decode cX12_left 28 = .ok (.invokevirtual 552, 3) := by decide +kernel
theorem dX12_left_31 : decode cX12_left 31 = .ok (.aload_n 0, 1) := by decide +kernel
theorem dX12_left_32 : decode cX12_left 32 = .ok (.getfield 127, 3) := by decide +kernel
theorem dX12_left_35 : decode cX12_left 35 = .ok (.iload_n 1, 1) := by decide +kernel
theorem dX12_left_36 : decode cX12_left 36 = .ok (.iaload, 1) := by decide +kernel
theorem dX12_left_37 : decode cX12_left 37 = .ok (.istore_n 3, 1) := by decide +kernel
theorem dX12_left_38 : decode cX12_left 38 = .ok (.aload_n 0, 1) := by decide +kernel
theorem dX12_left_39 : decode cX12_left 39 = .ok (.invokevirtual 555, 3) := by decide +kernel
theorem dX12_left_42 : decode cX12_left 42 = .ok (.iload_n 3, 1) := by decide +kernel
theorem dX12_left_43 : decode cX12_left 43 = .ok (.ireturn, 1) := by decide +kernel
theorem dX12_letter_0 : decode cX12_letter 0 = .ok (.aload_n 0, 1) := by decide +kernel
theorem dX12_letter_1 : decode cX12_letter 1 = .ok (.iload_n 1, 1) := by decide +kernel
theorem dX12_letter_2 : decode cX12_letter 2 = .ok (.invokevirtual 502, 3) := by decide +kernel
theorem dX12_letter_5 : decode cX12_letter 5 = .ok (.ifCond .eq 15, 3) := by decide +kernel
theorem dX12_letter_8 : decode cX12_letter 8 = .ok (.iload_n 2, 1) := by decide +kernel
theorem dX12_letter_9 : decode cX12_letter 9 = .ok (.i2l, 1) := by decide +kernel
theorem dX12_letter_10 : decode cX12_letter 10 = .ok (.lconst 0, 1) := by decide +kernel
theorem dX12_letter_11 : decode cX12_letter 11 = .ok (.ldc2_w 505, 3) := by decide +kernel
theorem dX12_letter_14 : decode cX12_letter 14 = .ok (.invokestatic 300, 3) := by decide +kernel
theorem dX12_letter_17 : decode cX12_letter 17 = .ok (.ifCond .ne 5, 3) := by decide +kernel
theorem dX12_letter_20 : decode cX12_letter 20 = .ok (.iconst (-1), 1) := by decide +kernel
theorem dX12_letter_21 : decode cX12_letter 21 = .ok (.ireturn, 1) := by decide +kernel
theorem dX12_letter_22 : decode cX12_letter 22 = .ok (.aload_n 0, 1) := by decide +kernel
theorem dX12_letter_23 : decode cX12_letter 23 = .ok (.getfield 108, 3) := by decide +kernel
theorem dX12_letter_26 : decode cX12_letter 26 = .ok (.bipush 6, 2) := by decide +kernel
theorem dX12_letter_28 : decode cX12_letter 28 = .ok (.iload_n 1, 1) := by decide +kernel
theorem dX12_letter_29 : decode cX12_letter 29 = .ok (.iadd, 1) := by decide +kernel
theorem dX12_letter_30 : decode cX12_letter 30 = .ok (.laload, 1) := by decide +kernel
theorem dX12_letter_31 : decode cX12_letter 31 = .ok (.lstore_n 3, 1) := by decide +kernel
theorem dX12_letter_32 : decode cX12_letter 32 = .ok (.iconst 0, 1) := by decide +kernel
theorem dX12_letter_33 : decode cX12_letter 33 = .ok (.istore 5, 2) := by decide +kernel
theorem dX12_letter_35 : decode cX12_letter 35 = .ok (.lload_n 3, 1) := by decide +kernel
theorem dX12_letter_36 : decode cX12_letter 36 = .ok (.lstore 6, 2) := by decide +kernel
theorem dX12_letter_38 : decode cX12_letter 38 = .ok (.lload 6, 2) := by decide +kernel
theorem dX12_letter_40 : decode cX12_letter 40 = .ok (.lconst 0, 1) := by decide +kernel
theorem dX12_letter_41 : decode cX12_letter 41 = .ok (.lcmp, 1) := by decide +kernel
theorem dX12_letter_42 : decode cX12_letter 42 = .ok (.ifCond .le 17, 3) := by decide +kernel
theorem dX12_letter_45 : decode cX12_letter 45 = .ok (.iinc 5 1, 3) := by decide +kernel
theorem dX12_letter_48 : decode cX12_letter 48 = .ok (.lload 6, 2) := by decide +kernel
theorem dX12_letter_50 : decode cX12_letter 50 = .ok (.ldc2_w 311, 3) := by decide +kernel
theorem dX12_letter_53 : decode cX12_letter 53 = .ok (.ldiv, 1) := by decide +kernel
theorem dX12_letter_54 : decode cX12_letter 54 = .ok (.lstore 6, 2) := by decide +kernel
theorem dX12_letter_56 : decode cX12_letter 56 = .ok (.goto (-18), 3) := by decide +kernel
theorem dX12_letter_59 : decode cX12_letter 59 = .ok (.iload_n 2, 1) := by decide +kernel
theorem dX12_letter_60 : decode cX12_letter 60 = .ok (.iload 5, 2) := by decide +kernel
theorem dX12_letter_62 : decode cX12_letter 62 = .ok (.if_icmp .lt 5, 3) := by decide +kernel
theorem dX12_letter_65 : decode cX12_letter 65 = .ok (.iconst 0, 1) := by decide +kernel
theorem dX12_letter_66 : decode cX12_letter 66 = .ok (.ireturn, 1) := by decide +kernel
theorem dX12_letter_67 : decode cX12_letter 67 = .ok (.iload 5, 2) := by decide +kernel
theorem dX12_letter_69 : decode cX12_letter 69 = .ok (.iconst 1, 1) := by decide +kernel
theorem dX12_letter_70 : decode cX12_letter 70 = .ok (.isub, 1) := by decide +kernel
theorem dX12_letter_71 : decode cX12_letter 71 = .ok (.istore 6, 2) := by decide +kernel
theorem dX12_letter_73 : decode cX12_letter 73 = .ok (.iload 6, 2) := by decide +kernel
theorem dX12_letter_75 : decode cX12_letter 75 = .ok (.iload_n 2, 1) := by decide +kernel
theorem dX12_letter_76 : decode cX12_letter 76 = .ok (.if_icmp .le 15, 3) := by decide +kernel
theorem dX12_letter_79 : decode cX12_letter 79 = .ok (.lload_n 3, 1) := by decide +kernel
theorem dX12_letter_80 : decode cX12_letter 80 = .ok (.ldc2_w 311, 3) := by decide +kernel
theorem dX12_letter_83 : decode cX12_letter 83 = .ok (.ldiv, 1) := by decide +kernel
theorem dX12_letter_84 : decode cX12_letter 84 = .ok (.lstore_n 3, 1) := by decide +kernel
theorem dX12_letter_85 : decode cX12_letter 85 = .ok (.iinc 6 (-1), 3) := by decide +kernel
theorem dX12_letter_88 : decode cX12_letter 88 = .ok (.goto (-15), 3) := by decide +kernel
theorem dX12_letter_91 : decode cX12_letter 91 = .ok (.lload_n 3, 1) := by decide +kernel
theorem dX12_letter_92 : decode cX12_letter 92 = .ok (.ldc2_w 311, 3) := by decide +kernel
theorem dX12_letter_95 : decode cX12_letter 95 = .ok (.lrem, 1) := by decide +kernel
theorem dX12_letter_96 : decode cX12_letter 96 = .ok (.l2i, 1) := by decide +kernel
theorem dX12_letter_97 : decode cX12_letter 97 = .ok (.ireturn, 1) := by decide +kernel
theorem dX12_makes_0 : decode cX12_makes 0 = .ok (.aload_n 0, 1) := by decide +kernel
theorem dX12_makes_1 : decode cX12_makes 1 = .ok (.iload_n 1, 1) := by decide +kernel
theorem dX12_makes_2 : decode cX12_makes 2 = .ok (.invokevirtual 535, 3) := by decide +kernel
theorem dX12_makes_5 : decode cX12_makes 5 = .ok (.ifCond .eq 13, 3) := by decide +kernel
theorem dX12_makes_8 : decode cX12_makes 8 = .ok (.iload_n 2, 1) := by decide +kernel
theorem dX12_makes_9 : decode cX12_makes 9 = .ok (.i2l, 1) := by decide +kernel
theorem dX12_makes_10 : decode cX12_makes 10 = .ok (.lconst 0, 1) := by decide +kernel
theorem dX12_makes_11 : decode cX12_makes 11 = .ok (.lconst 1, 1) := by decide +kernel
theorem dX12_makes_12 : decode cX12_makes 12 = .ok (.invokestatic 300, 3) := by decide +kernel
theorem dX12_makes_15 : decode cX12_makes 15 = .ok (.ifCond .ne 7, 3) := by decide +kernel
theorem dX12_makes_18 : decode cX12_makes 18 = .ok (.ldc2_w 530, 3) := by decide +kernel
theorem dX12_makes_21 : decode cX12_makes 21 = .ok (.lreturn, 1) := by decide +kernel
theorem dX12_makes_22 : decode cX12_makes 22 = .ok (.aload_n 0, 1) := by decide +kernel
theorem dX12_makes_23 : decode cX12_makes 23 = .ok (.iload_n 1, 1) := by decide +kernel
theorem dX12_makes_24 : decode cX12_makes 24 = .ok (.invokevirtual 538, 3) := by decide +kernel
theorem dX12_makes_27 : decode cX12_makes 27 = .ok (.lstore_n 3, 1) := by decide +kernel
theorem dX12_makes_28 : decode cX12_makes 28 = .ok (.lload_n 3, 1) := by decide +kernel
theorem dX12_makes_29 : decode cX12_makes 29 = .ok (.ldc2_w 402, 3) := by decide +kernel
theorem dX12_makes_32 : decode cX12_makes 32 = .ok (.invokestatic 541, 3) := by decide +kernel
theorem dX12_makes_35 : decode cX12_makes 35 = .ok (.lstore 5, 2) := by decide +kernel
theorem dX12_makes_37 : decode cX12_makes 37 = .ok (.iload_n 2, 1) := by decide +kernel
theorem dX12_makes_38 : decode cX12_makes 38 = .ok (.ifCond .ne 10, 3) := by decide +kernel
theorem dX12_makes_41 : decode cX12_makes 41 = .ok (.lload_n 3, 1) := by decide +kernel
theorem dX12_makes_42 : decode cX12_makes 42 = .ok (.lload 5, 2) := by decide +kernel
theorem dX12_makes_44 : decode cX12_makes 44 = .ok (.ldiv, 1) := by decide +kernel
theorem dX12_makes_45 : decode cX12_makes 45 = .ok (.goto 9, 3) := by decide +kernel
theorem dX12_makes_48 : decode cX12_makes 48 = .ok (.ldc2_w 402, 3) := by decide +kernel
theorem dX12_makes_51 : decode cX12_makes 51 = .ok (.lload 5, 2) := by decide +kernel
theorem dX12_makes_53 : decode cX12_makes 53 = .ok (.ldiv, 1) := by decide +kernel
theorem dX12_makes_54 : decode cX12_makes 54 = .ok (.lreturn, 1) := by decide +kernel
theorem dX12_mend_0 : decode cX12_mend 0 = .ok (.aload_n 0, 1) := by decide +kernel
theorem dX12_mend_1 : decode cX12_mend 1 = .ok (.iload_n 1, 1) := by decide +kernel
theorem dX12_mend_2 : decode cX12_mend 2 = .ok (.iload_n 2, 1) := by decide +kernel
theorem dX12_mend_3 : decode cX12_mend 3 = .ok (.invokevirtual 518, 3) := by decide +kernel
theorem dX12_mend_6 : decode cX12_mend 6 = .ok (.ifCond .eq 24, 3) := by decide +kernel
theorem dX12_mend_9 : decode cX12_mend 9 = .ok (.aload_n 0, 1) := by decide +kernel
theorem dX12_mend_10 : decode cX12_mend 10 = .ok (.iload_n 3, 1) := by decide +kernel
theorem dX12_mend_11 : decode cX12_mend 11 = .ok (.invokevirtual 535, 3) := by decide +kernel
theorem dX12_mend_14 : decode cX12_mend 14 = .ok (.ifCond .eq 16, 3) := by decide +kernel
theorem dX12_mend_17 : decode cX12_mend 17 = .ok (.iload 4, 2) := by decide +kernel
theorem dX12_mend_19 : decode cX12_mend 19 = .ok (.i2l, 1) := by decide +kernel
theorem dX12_mend_20 : decode cX12_mend 20 = .ok (.lconst 0, 1) := by decide +kernel
theorem dX12_mend_21 : decode cX12_mend 21 = .ok (.ldc2_w 514, 3) := by decide +kernel
theorem dX12_mend_24 : decode cX12_mend 24 = .ok (.invokestatic 300, 3) := by decide +kernel
theorem dX12_mend_27 : decode cX12_mend 27 = .ok (.ifCond .ne 5, 3) := by decide +kernel
theorem dX12_mend_30 : decode cX12_mend 30 = .ok (.iconst (-1), 1) := by decide +kernel
theorem dX12_mend_31 : decode cX12_mend 31 = .ok (.ireturn, 1) := by decide +kernel
theorem dX12_mend_32 : decode cX12_mend 32 = .ok (.iload_n 1, 1) := by decide +kernel
theorem dX12_mend_33 : decode cX12_mend 33 = .ok (.iload_n 2, 1) := by decide +kernel
theorem dX12_mend_34 : decode cX12_mend 34 = .ok (.invokestatic 413, 3) := by decide +kernel
theorem dX12_mend_37 : decode cX12_mend 37 = .ok (.lstore 5, 2) := by decide +kernel
theorem dX12_mend_39 : decode cX12_mend 39 = .ok (.aload_n 0, 1) := by decide +kernel
theorem dX12_mend_40 : decode cX12_mend 40 = .ok (.iload_n 3, 1) := by decide +kernel
theorem dX12_mend_41 : decode cX12_mend 41 = .ok (.invokevirtual 538, 3) := by decide +kernel
theorem dX12_mend_44 : decode cX12_mend 44 = .ok (.lstore 7, 2) := by decide +kernel
theorem dX12_mend_46 : decode cX12_mend 46 = .ok (.iload_n 3, 1) := by decide +kernel
theorem dX12_mend_47 : decode cX12_mend 47 = .ok (.invokestatic 521, 3) := by decide +kernel
theorem dX12_mend_50 : decode cX12_mend 50 = .ok (.aload_n 0, 1) := by decide +kernel
theorem dX12_mend_51 : decode cX12_mend 51 = .ok (.invokevirtual 407, 3) := by decide +kernel
theorem dX12_mend_54 : decode cX12_mend 54 = .ok (.if_icmp .gt 7, 3) := by decide +kernel
theorem dX12_mend_57 : decode cX12_mend 57 = .ok (.iconst 1, 1) := by decide +kernel
theorem dX12_mend_58 : decode cX12_mend 58 = .ok (.goto 4, 3) := by decide +kernel
theorem dX12_mend_61 : decode cX12_mend 61 = .ok (.iconst 0, 1) := by decide +kernel
theorem dX12_mend_62 : decode cX12_mend 62 = .ok (.istore 9, 2) := by decide +kernel
theorem dX12_mend_64 : decode cX12_mend 64 = .ok (.iload 9, 2) := by decide +kernel
theorem dX12_mend_66 : decode cX12_mend 66 = .ok (.ifCond .eq 13, 3) := by decide +kernel
theorem dX12_mend_69 : decode cX12_mend 69 = .ok (.lload 7, 2) := by decide +kernel
theorem dX12_mend_71 : decode cX12_mend 71 = .ok (.lload 5, 2) := by decide +kernel
theorem dX12_mend_73 : decode cX12_mend 73 = .ok (.lcmp, 1) := by decide +kernel
theorem dX12_mend_74 : decode cX12_mend 74 = .ok (.ifCond .ne 5, 3) := by decide +kernel
theorem dX12_mend_77 : decode cX12_mend 77 = .ok (.iconst (-1), 1) := by decide +kernel
theorem dX12_mend_78 : decode cX12_mend 78 = .ok (.ireturn, 1) := by decide +kernel
theorem dX12_mend_79 : decode cX12_mend 79 = .ok (.iconst 0, 1) := by decide +kernel
theorem dX12_mend_80 : decode cX12_mend 80 = .ok (.istore 10, 2) := by decide +kernel
theorem dX12_mend_82 : decode cX12_mend 82 = .ok (.iconst (-1), 1) := by decide +kernel
theorem dX12_mend_83 : decode cX12_mend 83 = .ok (.istore 11, 2) := by decide +kernel
theorem dX12_mend_85 : decode cX12_mend 85 = .ok (.iconst (-1), 1) := by decide +kernel
theorem dX12_mend_86 : decode cX12_mend 86 = .ok (.istore 12, 2) := by decide +kernel
theorem dX12_mend_88 : decode cX12_mend 88 = .ok (.iconst 1, 1) := by decide +kernel
theorem dX12_mend_89 : decode cX12_mend 89 = .ok (.istore 13, 2) := by decide +kernel
theorem dX12_mend_91 : decode cX12_mend 91 = .ok (.iload 13, 2) := by decide +kernel
theorem dX12_mend_93 : decode cX12_mend 93 = .ok (.aload_n 0, 1) := by decide +kernel
theorem dX12_mend_94 : decode cX12_mend 94 = .ok (.invokevirtual 396, 3) := by decide +kernel
theorem dX12_mend_97 : decode cX12_mend 97 = .ok (.if_icmp .gt 100, 3) := by decide +kernel
theorem dX12_mend_100 : decode cX12_mend 100 = .ok (.iload 9, 2) := by decide +kernel
theorem dX12_mend_102 : decode cX12_mend 102 = .ok (.ifCond .eq 95, 3) := by decide +kernel
theorem dX12_mend_105 : decode cX12_mend 105 = .ok (.lload 5, 2) := by decide +kernel
theorem dX12_mend_107 : decode cX12_mend 107 = .ok (.lconst 0, 1) := by decide +kernel
theorem dX12_mend_108 : decode cX12_mend 108 = .ok (.lcmp, 1) := by decide +kernel
theorem dX12_mend_109 : decode cX12_mend 109 = .ok (.ifCond .le 88, 3) := by decide +kernel
theorem dX12_mend_112 : decode cX12_mend 112 = .ok (.iconst 1, 1) := by decide +kernel
theorem dX12_mend_113 : decode cX12_mend 113 = .ok (.istore 14, 2) := by decide +kernel
theorem dX12_mend_115 : decode cX12_mend 115 = .ok (.iload 14, 2) := by decide +kernel
theorem dX12_mend_117 : decode cX12_mend 117 = .ok (.aload_n 0, 1) := by decide +kernel
theorem dX12_mend_118 : decode cX12_mend 118 = .ok (.invokevirtual 396, 3) := by decide +kernel
theorem dX12_mend_121 : decode cX12_mend 121 = .ok (.if_icmp .gt 70, 3) := by decide +kernel
theorem dX12_mend_124 : decode cX12_mend 124 = .ok (.iload_n 3, 1) := by decide +kernel
theorem dX12_mend_125 : decode cX12_mend 125 = .ok (.iload 13, 2) := by decide +kernel
theorem dX12_mend_127 : decode cX12_mend 127 = .ok (.invokestatic 433, 3) := by decide +kernel
theorem dX12_mend_130 : decode cX12_mend 130 = .ok (.ifCond .eq 55, 3) := by decide +kernel
theorem dX12_mend_133 : decode cX12_mend 133 = .ok (.iload_n 3, 1) := by decide +kernel
theorem dX12_mend_134 : decode cX12_mend 134 = .ok (.iload 14, 2) := by decide +kernel
theorem dX12_mend_136 : decode cX12_mend 136 = .ok (.invokestatic 433, 3) := by decide +kernel
theorem dX12_mend_139 : decode cX12_mend 139 = .ok (.ifCond .ne 46, 3) := by decide +kernel
theorem dX12_mend_142 : decode cX12_mend 142 = .ok (.lload 7, 2) := by decide +kernel
theorem dX12_mend_144 : decode cX12_mend 144 = .ok (.ldc2_w 402, 3) := by decide +kernel
theorem dX12_mend_147 : decode cX12_mend 147 = .ok (.iload 13, 2) := by decide +kernel
theorem dX12_mend_149 : decode cX12_mend 149 = .ok (.i2l, 1) := by decide +kernel
theorem dX12_mend_150 : decode cX12_mend 150 = .ok (.ldiv, 1) := by decide +kernel
theorem dX12_mend_151 : decode cX12_mend 151 = .ok (.lsub, 1) := by decide +kernel
theorem dX12_mend_152 : decode cX12_mend 152 = .ok (.ldc2_w 402, 3) := by decide +kernel
theorem dX12_mend_155 : decode cX12_mend 155 = .ok (.iload 14, 2) := by decide +kernel
theorem dX12_mend_157 : decode cX12_mend 157 = .ok (.i2l, 1) := by decide +kernel
theorem dX12_mend_158 : decode cX12_mend 158 = .ok (.ldiv, 1) := by decide +kernel
theorem dX12_mend_159 : decode cX12_mend 159 = .ok (.ladd, 1) := by decide +kernel
theorem dX12_mend_160 : decode cX12_mend 160 = .ok (.lload 5, 2) := by decide +kernel
theorem dX12_mend_162 : decode cX12_mend 162 = .ok (.lcmp, 1) := by decide +kernel
theorem dX12_mend_163 : decode cX12_mend 163 = .ok (.ifCond .eq 6, 3) := by decide +kernel
theorem dX12_mend_166 : decode cX12_mend 166 = .ok (.goto 19, 3) := by decide +kernel
theorem dX12_mend_169 : decode cX12_mend 169 = .ok (.iload 10, 2) := by decide +kernel
theorem dX12_mend_171 : decode cX12_mend 171 = .ok (.ifCond .ne 11, 3) := by decide +kernel
theorem dX12_mend_174 : decode cX12_mend 174 = .ok (.iload 13, 2) := by decide +kernel
theorem dX12_mend_176 : decode cX12_mend 176 = .ok (.istore 11, 2) := by decide +kernel
theorem dX12_mend_178 : decode cX12_mend 178 = .ok (.iload 14, 2) := by decide +kernel
theorem dX12_mend_180 : decode cX12_mend 180 = .ok (.istore 12, 2) := by decide +kernel
theorem dX12_mend_182 : decode cX12_mend 182 = .ok (.iinc 10 1, 3) := by decide +kernel
theorem dX12_mend_185 : decode cX12_mend 185 = .ok (.iinc 14 1, 3) := by decide +kernel
theorem dX12_mend_188 : decode cX12_mend 188 = .ok (.goto (-73), 3) := by decide +kernel
theorem dX12_mend_191 : decode cX12_mend 191 = .ok (.iinc 13 1, 3) := by decide +kernel
theorem dX12_mend_194 : decode cX12_mend 194 = .ok (.goto (-103), 3) := by decide +kernel
theorem dX12_mend_197 : decode cX12_mend 197 = .ok (.iload 4, 2) := by decide +kernel
theorem dX12_mend_199 : decode cX12_mend 199 = .ok (.ifCond .ne 8, 3) := by decide +kernel
theorem dX12_mend_202 : decode cX12_mend 202 = .ok (.iload 10, 2) := by decide +kernel
theorem dX12_mend_204 : decode cX12_mend 204 = .ok (.goto 16, 3) := by decide +kernel
theorem dX12_mend_207 : decode cX12_mend 207 = .ok (.iload 4, 2) := by decide +kernel
theorem dX12_mend_209 : decode cX12_mend 209 = .ok (.iconst 1, 1) := by decide +kernel
theorem dX12_mend_210 : decode cX12_mend 210 = .ok (.if_icmp .ne 8, 3) := by decide +kernel
theorem dX12_mend_213 : decode cX12_mend 213 = .ok (.iload 11, 2) := by decide +kernel
theorem dX12_mend_215 : decode cX12_mend 215 = .ok (.goto 5, 3) := by decide +kernel
theorem dX12_mend_218 : decode cX12_mend 218 = .ok (.iload 12, 2) := by decide +kernel
theorem dX12_mend_220 : decode cX12_mend 220 = .ok (.ireturn, 1) := by decide +kernel
theorem dX12_mostAlike_0 : decode cX12_mostAlike 0 = .ok (.iconst 0, 1) := by decide +kernel
theorem dX12_mostAlike_1 : decode cX12_mostAlike 1 = .ok (.istore 4, 2) := by decide +kernel
theorem dX12_mostAlike_3 : decode cX12_mostAlike 3 = .ok (.iconst 0, 1) := by decide +kernel
theorem dX12_mostAlike_4 : decode cX12_mostAlike 4 = .ok (.istore 5, 2) := by decide +kernel
theorem dX12_mostAlike_6 : decode cX12_mostAlike 6 = .ok (.iload 5, 2) := by decide +kernel
theorem dX12_mostAlike_8 : decode cX12_mostAlike 8 = .ok (.bipush 30, 2) := by decide +kernel
theorem dX12_mostAlike_10 : decode cX12_mostAlike 10 = .ok (.if_icmp .gt 42, 3) := by decide +kernel
theorem dX12_mostAlike_13 : decode cX12_mostAlike 13 = .ok (.iload_n 1, 1) := by decide +kernel
theorem dX12_mostAlike_14 : decode cX12_mostAlike 14 = .ok (.iload 5, 2) := by decide +kernel
theorem dX12_mostAlike_16 : decode cX12_mostAlike 16 = .ok (.ishr, 1) := by decide +kernel
theorem dX12_mostAlike_17 : decode cX12_mostAlike 17 = .ok (.iconst 1, 1) := by decide +kernel
theorem dX12_mostAlike_18 : decode cX12_mostAlike 18 = .ok (.iand, 1) := by decide +kernel
theorem dX12_mostAlike_19 : decode cX12_mostAlike 19 = .ok (.iconst 1, 1) := by decide +kernel
theorem dX12_mostAlike_20 : decode cX12_mostAlike 20 = .ok (.if_icmp .ne 26, 3) := by decide +kernel
theorem dX12_mostAlike_23 : decode cX12_mostAlike 23 = .ok (.aload_n 0, 1) := by decide +kernel
theorem dX12_mostAlike_24 : decode cX12_mostAlike 24 = .ok (.getfield 160, 3) := by decide +kernel
theorem dX12_mostAlike_27 : decode cX12_mostAlike 27 = .ok (.bipush 31, 2) := by decide +kernel
theorem dX12_mostAlike_29 : decode cX12_mostAlike 29 = .ok (.iload 5, 2) := by decide +kernel
theorem dX12_mostAlike_31 : decode cX12_mostAlike 31 = .ok (.imul, 1) := by decide +kernel
theorem dX12_mostAlike_32 : decode cX12_mostAlike 32 = .ok (.iload_n 2, 1) := by decide +kernel
theorem dX12_mostAlike_33 : decode cX12_mostAlike 33 = .ok (.iadd, 1) := by decide +kernel
theorem dX12_mostAlike_34 : decode cX12_mostAlike 34 = .ok (.iaload, 1) := by decide +kernel
theorem dX12_mostAlike_35 : decode cX12_mostAlike 35 = .ok (.iload_n 3, 1) := by decide +kernel
theorem dX12_mostAlike_36 : decode cX12_mostAlike 36 = .ok (.ishr, 1) := by decide +kernel
theorem dX12_mostAlike_37 : decode cX12_mostAlike 37 = .ok (.iconst 1, 1) := by decide +kernel
theorem dX12_mostAlike_38 : decode cX12_mostAlike 38 = .ok (.iand, 1) := by decide +kernel
theorem dX12_mostAlike_39 : decode cX12_mostAlike 39 = .ok (.iconst 1, 1) := by decide +kernel
theorem dX12_mostAlike_40 : decode cX12_mostAlike 40 = .ok (.if_icmp .ne 6, 3) := by decide +kernel
theorem dX12_mostAlike_43 : decode cX12_mostAlike 43 = .ok (.iinc 4 1, 3) := by decide +kernel
theorem dX12_mostAlike_46 : decode cX12_mostAlike 46 = .ok (.iinc 5 1, 3) := by decide +kernel
theorem dX12_mostAlike_49 : decode cX12_mostAlike 49 = .ok (.goto (-43), 3) := by decide +kernel
theorem dX12_mostAlike_52 : decode cX12_mostAlike 52 = .ok (.iload_n 1, 1) := by decide +kernel
theorem dX12_mostAlike_53 : decode cX12_mostAlike 53 = .ok (.invokestatic 521, 3) := by decide +kernel
theorem dX12_mostAlike_56 : decode cX12_mostAlike 56 = .ok (.iload 4, 2) := by decide +kernel
theorem dX12_mostAlike_58 : decode cX12_mostAlike 58 = .ok (.isub, 1) := by decide +kernel
theorem dX12_mostAlike_59 : decode cX12_mostAlike 59 = .ok (.istore 5, 2) := by decide +kernel
theorem dX12_mostAlike_61 : decode cX12_mostAlike 61 = .ok (.iload 4, 2) := by decide +kernel
theorem dX12_mostAlike_63 : decode cX12_mostAlike 63 = .ok (.iload 5, 2) := by decide +kernel
theorem dX12_mostAlike_65 : decode cX12_mostAlike 65 = .ok (.if_icmp .ge 8, 3) := by decide +kernel
theorem dX12_mostAlike_68 : decode cX12_mostAlike 68 = .ok (.iload 5, 2) := by decide +kernel
theorem dX12_mostAlike_70 : decode cX12_mostAlike 70 = .ok (.goto 5, 3) := by decide +kernel
theorem dX12_mostAlike_73 : decode cX12_mostAlike 73 = .ok (.iload 4, 2) := by decide +kernel
theorem dX12_mostAlike_75 : decode cX12_mostAlike 75 = .ok (.ireturn, 1) := by decide +kernel
theorem dX12_name_0 : decode cX12_name 0 = .ok (.aload_n 0, 1) := by decide +kernel
theorem dX12_name_1 : decode cX12_name 1 = .ok (.getfield 257, 3) := by decide +kernel
theorem dX12_name_4 : decode cX12_name 4 = .ok (.ifCond .eq 5, 3) := by decide +kernel
theorem dX12_name_7 : decode cX12_name 7 = .ok (.lconst 0, 1) := by decide +kernel
theorem dX12_name_8 : decode cX12_name 8 = .ok (.lreturn, 1) := by decide +kernel
theorem dX12_name_9 : decode cX12_name 9 = .ok (.aload_n 0, 1) := by decide +kernel
theorem dX12_name_10 : decode cX12_name 10 = .ok (.invokevirtual 269, 3) := by decide +kernel
theorem dX12_name_13 : decode cX12_name 13 = .ok (.invokestatic 273, 3) := by decide +kernel
theorem dX12_name_16 : decode cX12_name 16 = .ok (.ifCond .eq 21, 3) := by decide +kernel
theorem dX12_name_19 : decode cX12_name 19 = .ok (.aload_n 0, 1) := by decide +kernel
theorem dX12_name_20 : decode cX12_name 20 = .ok (.getfield 263, 3) := by decide +kernel
theorem dX12_name_23 : decode cX12_name 23 = .ok (.aload_n 0, 1) := by decide +kernel
theorem dX12_name_24 : decode cX12_name 24 = .ok (.getfield 277, 3) := by decide +kernel
theorem dX12_name_27 : decode cX12_name 27 = .ok (.if_icmp .eq 10, 3) := by decide +kernel
theorem dX12_name_30 : decode cX12_name 30 = .ok (.aload_n 0, 1) := by decide +kernel
theorem dX12_name_31 : decode cX12_name 31 = .ok (.invokevirtual 304, 3) := by decide +kernel
theorem dX12_name_34 : decode cX12_name 34 = .ok (.ifCond .eq 14, 3) := by decide +kernel
theorem dX12_name_37 : decode cX12_name 37 = .ok (.aload_n 0, 1) := by decide +kernel
theorem dX12_name_38 : decode cX12_name 38 = .ok (.iconst 1, 1) := by decide +kernel
theorem dX12_name_39 : decode cX12_name 39 = .ok (.aload_n 0, 1) := by decide +kernel
theorem dX12_name_40 : decode cX12_name 40 = .ok (.getfield 263, 3) := by decide +kernel
theorem dX12_name_43 : decode cX12_name 43 = .ok (.invokevirtual 287, 3) := by decide +kernel
theorem dX12_name_46 : decode cX12_name 46 = .ok (.lconst 0, 1) := by decide +kernel
theorem dX12_name_47 : decode cX12_name 47 = .ok (.lreturn, 1) := by decide +kernel
theorem dX12_name_48 : decode cX12_name 48 = .ok (.aload_n 0, 1) := by decide +kernel
theorem dX12_name_49 : decode cX12_name 49 = .ok (.aload_n 0, 1) := by decide +kernel
theorem dX12_name_50 : decode cX12_name 50 = .ok (.getfield 263, 3) := by decide +kernel
theorem dX12_name_53 : decode cX12_name 53 = .ok (.putfield 308, 3) := by decide +kernel
theorem dX12_name_56 : decode cX12_name 56 = .ok (.lconst 0, 1) := by decide +kernel
theorem dX12_name_57 : decode cX12_name 57 = .ok (.lstore_n 1, 1) := by decide +kernel
theorem dX12_name_58 : decode cX12_name 58 = .ok (.aload_n 0, 1) := by decide +kernel
theorem dX12_name_59 : decode cX12_name 59 = .ok (.getfield 263, 3) := by decide +kernel
theorem dX12_name_62 : decode cX12_name 62 = .ok (.aload_n 0, 1) := by decide +kernel
theorem dX12_name_63 : decode cX12_name 63 = .ok (.getfield 266, 3) := by decide +kernel
theorem dX12_name_66 : decode cX12_name 66 = .ok (.if_icmp .ge 79, 3) := by decide +kernel
theorem dX12_name_69 : decode cX12_name 69 = .ok (.aload_n 0, 1) := by decide +kernel
theorem dX12_name_70 : decode cX12_name 70 = .ok (.getfield 7, 3) := by decide +kernel
theorem dX12_name_73 : decode cX12_name 73 = .ok (.aload_n 0, 1) := by decide +kernel
theorem dX12_name_74 : decode cX12_name 74 = .ok (.getfield 263, 3) := by decide +kernel
theorem dX12_name_77 : decode cX12_name 77 = .ok (.iaload, 1) := by decide +kernel
theorem dX12_name_78 : decode cX12_name 78 = .ok (.invokestatic 273, 3) := by decide +kernel
theorem dX12_name_81 : decode cX12_name 81 = .ok (.ifCond .eq 64, 3) := by decide +kernel
theorem dX12_name_84 : decode cX12_name 84 = .ok (.aload_n 0, 1) := by decide +kernel
theorem dX12_name_85 : decode cX12_name 85 = .ok (.getfield 263, 3) := by decide +kernel
theorem dX12_name_88 : decode cX12_name 88 = .ok (.aload_n 0, 1) := by decide +kernel
theorem dX12_name_89 : decode cX12_name 89 = .ok (.getfield 308, 3) := by decide +kernel
theorem dX12_name_92 : decode cX12_name 92 = .ok (.isub, 1) := by decide +kernel
theorem dX12_name_93 : decode cX12_name 93 = .ok (.bipush 6, 2) := by decide +kernel
theorem dX12_name_95 : decode cX12_name 95 = .ok (.if_icmp .ne 14, 3) := by decide +kernel
theorem dX12_name_98 : decode cX12_name 98 = .ok (.aload_n 0, 1) := by decide +kernel
theorem dX12_name_99 : decode cX12_name 99 = .ok (.iconst 1, 1) := by decide +kernel
theorem dX12_name_100 : decode cX12_name 100 = .ok (.aload_n 0, 1) := by decide +kernel
theorem dX12_name_101 : decode cX12_name 101 = .ok (.getfield 263, 3) := by decide +kernel
theorem dX12_name_104 : decode cX12_name 104 = .ok (.invokevirtual 287, 3) := by decide +kernel
theorem dX12_name_107 : decode cX12_name 107 = .ok (.lconst 0, 1) := by decide +kernel
theorem dX12_name_108 : decode cX12_name 108 = .ok (.lreturn, 1) := by decide +kernel
theorem dX12_name_109 : decode cX12_name 109 = .ok (.ldc2_w 311, 3) := by decide +kernel
theorem dX12_name_112 : decode cX12_name 112 = .ok (.lload_n 1, 1) := by decide +kernel
theorem dX12_name_113 : decode cX12_name 113 = .ok (.lmul, 1) := by decide +kernel
theorem dX12_name_114 : decode cX12_name 114 = .ok (.aload_n 0, 1) := by decide +kernel
theorem dX12_name_115 : decode cX12_name 115 = .ok (.getfield 7, 3) := by decide +kernel
theorem dX12_name_118 : decode cX12_name 118 = .ok (.aload_n 0, 1) := by decide +kernel
theorem dX12_name_119 : decode cX12_name 119 = .ok (.getfield 263, 3) := by decide +kernel
theorem dX12_name_122 : decode cX12_name 122 = .ok (.iaload, 1) := by decide +kernel
theorem dX12_name_123 : decode cX12_name 123 = .ok (.i2l, 1) := by decide +kernel
theorem dX12_name_124 : decode cX12_name 124 = .ok (.ladd, 1) := by decide +kernel
theorem dX12_name_125 : decode cX12_name 125 = .ok (.ldc2_w 313, 3) := by decide +kernel
theorem dX12_name_128 : decode cX12_name 128 = .ok (.lsub, 1) := by decide +kernel
theorem dX12_name_129 : decode cX12_name 129 = .ok (.lconst 1, 1) := by decide +kernel
theorem dX12_name_130 : decode cX12_name 130 = .ok (.ladd, 1) := by decide +kernel
theorem dX12_name_131 : decode cX12_name 131 = .ok (.lstore_n 1, 1) := by decide +kernel
theorem dX12_name_132 : decode cX12_name 132 = .ok (.aload_n 0, 1) := by decide +kernel
theorem dX12_name_133 : decode cX12_name 133 = .ok (.dup, 1) := by decide +kernel
theorem dX12_name_134 : decode cX12_name 134 = .ok (.getfield 263, 3) := by decide +kernel
theorem dX12_name_137 : decode cX12_name 137 = .ok (.iconst 1, 1) := by decide +kernel
theorem dX12_name_138 : decode cX12_name 138 = .ok (.iadd, 1) := by decide +kernel
theorem dX12_name_139 : decode cX12_name 139 = .ok (.putfield 263, 3) := by decide +kernel
theorem dX12_name_142 : decode cX12_name 142 = .ok (.goto (-84), 3) := by decide +kernel
theorem dX12_name_145 : decode cX12_name 145 = .ok (.aload_n 0, 1) := by decide +kernel
theorem dX12_name_146 : decode cX12_name 146 = .ok (.aload_n 0, 1) := by decide +kernel
theorem dX12_name_147 : decode cX12_name 147 = .ok (.getfield 263, 3) := by decide +kernel
theorem dX12_name_150 : decode cX12_name 150 = .ok (.putfield 277, 3) := by decide +kernel
theorem dX12_name_153 : decode cX12_name 153 = .ok (.lload_n 1, 1) := by decide +kernel
theorem dX12_name_154 : decode cX12_name 154 = .ok (.lreturn, 1) := by decide +kernel
theorem dX12_octet_0 : decode cX12_octet 0 = .ok (.iload_n 1, 1) := by decide +kernel
theorem dX12_octet_1 : decode cX12_octet 1 = .ok (.ifCond .lt 20, 3) := by decide +kernel
theorem dX12_octet_4 : decode cX12_octet 4 = .ok (.iload_n 1, 1) := by decide +kernel
theorem dX12_octet_5 : decode cX12_octet 5 = .ok (.aload_n 0, 1) := by decide +kernel
theorem dX12_octet_6 : decode cX12_octet 6 = .ok (.getfield 698, 3) := by decide +kernel
theorem dX12_octet_9 : decode cX12_octet 9 = .ok (.if_icmp .ge 12, 3) := by decide +kernel
theorem dX12_octet_12 : decode cX12_octet 12 = .ok (.aload_n 0, 1) := by decide +kernel
theorem dX12_octet_13 : decode cX12_octet 13 = .ok (.getfield 251, 3) := by decide +kernel
theorem dX12_octet_16 : decode cX12_octet 16 = .ok (.iload_n 1, 1) := by decide +kernel
theorem dX12_octet_17 : decode cX12_octet 17 = .ok (.iaload, 1) := by decide +kernel
theorem dX12_octet_18 : decode cX12_octet 18 = .ok (.goto 4, 3) := by decide +kernel
theorem dX12_octet_21 : decode cX12_octet 21 = .ok (.iconst (-1), 1) := by decide +kernel
theorem dX12_octet_22 : decode cX12_octet 22 = .ok (.ireturn, 1) := by decide +kernel
theorem dX12_odds_0 : decode cX12_odds 0 = .ok (.iload_n 1, 1) := by decide +kernel
theorem dX12_odds_1 : decode cX12_odds 1 = .ok (.iconst (-1), 1) := by decide +kernel
theorem dX12_odds_2 : decode cX12_odds 2 = .ok (.if_icmp .eq 11, 3) := by decide +kernel
theorem dX12_odds_5 : decode cX12_odds 5 = .ok (.aload_n 0, 1) := by decide +kernel
theorem dX12_odds_6 : decode cX12_odds 6 = .ok (.iload_n 1, 1) := by decide +kernel
theorem dX12_odds_7 : decode cX12_odds 7 = .ok (.invokevirtual 502, 3) := by decide +kernel
theorem dX12_odds_10 : decode cX12_odds 10 = .ok (.ifCond .eq 13, 3) := by decide +kernel
theorem dX12_odds_13 : decode cX12_odds 13 = .ok (.aload_n 0, 1) := by decide +kernel
theorem dX12_odds_14 : decode cX12_odds 14 = .ok (.iconst 1, 1) := by decide +kernel
theorem dX12_odds_15 : decode cX12_odds 15 = .ok (.iconst 1, 1) := by decide +kernel
theorem dX12_odds_16 : decode cX12_odds 16 = .ok (.iconst 1, 1) := by decide +kernel
theorem dX12_odds_17 : decode cX12_odds 17 = .ok (.invokevirtual 545, 3) := by decide +kernel
theorem dX12_odds_20 : decode cX12_odds 20 = .ok (.ifCond .ne 5, 3) := by decide +kernel
theorem dX12_odds_23 : decode cX12_odds 23 = .ok (.iconst (-1), 1) := by decide +kernel
theorem dX12_odds_24 : decode cX12_odds 24 = .ok (.ireturn, 1) := by decide +kernel
theorem dX12_odds_25 : decode cX12_odds 25 = .ok (.iload_n 1, 1) := by decide +kernel
theorem dX12_odds_26 : decode cX12_odds 26 = .ok (.iconst (-1), 1) := by decide +kernel
theorem dX12_odds_27 : decode cX12_odds 27 = .ok (.if_icmp .ne 11, 3) := by decide +kernel
theorem dX12_odds_30 : decode cX12_odds 30 = .ok (.bipush 100, 2) := by decide +kernel
theorem dX12_odds_32 : decode cX12_odds 32 = .ok (.aload_n 0, 1) := by decide +kernel
theorem dX12_odds_33 : decode cX12_odds 33 = .ok (.invokevirtual 396, 3) := by decide +kernel
theorem dX12_odds_36 : decode cX12_odds 36 = .ok (.imul, 1) := by decide +kernel
theorem dX12_odds_37 : decode cX12_odds 37 = .ok (.ireturn, 1) := by decide +kernel
theorem dX12_odds_38 : decode cX12_odds 38 = .ok (.iconst 0, 1) := by decide +kernel
theorem dX12_odds_39 : decode cX12_odds 39 = .ok (.istore_n 2, 1) := by decide +kernel
theorem dX12_odds_40 : decode cX12_odds 40 = .ok (.aload_n 0, 1) := by decide +kernel
theorem dX12_odds_41 : decode cX12_odds 41 = .ok (.invokevirtual 549, 3) := by decide +kernel
theorem dX12_odds_44 : decode cX12_odds 44 = .ok (.iconst 0, 1) := by decide +kernel
theorem dX12_odds_45 : decode cX12_odds 45 = .ok (.istore_n 3, 1) := by decide +kernel
theorem dX12_odds_46 : decode cX12_odds 46 = .ok (.iload_n 3, 1) := by decide +kernel
theorem dX12_odds_47 : decode cX12_odds 47 = .ok (.aload_n 0, 1) := by decide +kernel
theorem dX12_odds_48 : decode cX12_odds 48 = .ok (.invokevirtual 396, 3) := by decide +kernel
theorem dX12_odds_51 : decode cX12_odds 51 = .ok (.if_icmp .gt 71, 3) := by decide +kernel
theorem dX12_odds_54 : decode cX12_odds 54 = .ok (.iload_n 3, 1) := by decide +kernel
theorem dX12_odds_55 : decode cX12_odds 55 = .ok (.ifCond .le 9, 3) := by decide +kernel
theorem dX12_odds_58 : decode cX12_odds 58 = .ok (.aload_n 0, 1) := by decide +kernel
theorem dX12_odds_59 : decode cX12_odds 59 = .ok (.iload_n 3, 1) := by decide +kernel
theorem dX12_odds_60 : decode cX12_odds 60 = .ok (.invokevirtual 578, 3) := by decide +kernel
theorem dX12_odds_63 : decode cX12_odds 63 = .ok (.pop, 1) := by decide +kernel
theorem dX12_odds_64 : decode cX12_odds 64 = .ok (.aload_n 0, 1) := by decide +kernel
theorem dX12_odds_65 : decode cX12_odds 65 = .ok (.invokevirtual 489, 3) := by decide +kernel
theorem dX12_odds_68 : decode cX12_odds 68 = .ok (.aload_n 0, 1) := by decide +kernel
theorem dX12_odds_69 : decode cX12_odds 69 = .ok (.getfield 483, 3) := by decide +kernel
theorem dX12_odds_72 : decode cX12_odds 72 = .ok (.iload_n 1, 1) := by decide +kernel
theorem dX12_odds_73 : decode cX12_odds 73 = .ok (.ishr, 1) := by decide +kernel
theorem dX12_odds_74 : decode cX12_odds 74 = .ok (.iconst 1, 1) := by decide +kernel
theorem dX12_odds_75 : decode cX12_odds 75 = .ok (.iand, 1) := by decide +kernel
theorem dX12_odds_76 : decode cX12_odds 76 = .ok (.iconst 1, 1) := by decide +kernel
theorem dX12_odds_77 : decode cX12_odds 77 = .ok (.if_icmp .ne 35, 3) := by decide +kernel
theorem dX12_odds_80 : decode cX12_odds 80 = .ok (.iload_n 2, 1) := by decide +kernel
theorem dX12_odds_81 : decode cX12_odds 81 = .ok (.iload_n 3, 1) := by decide +kernel
theorem dX12_odds_82 : decode cX12_odds 82 = .ok (.ifCond .ne 21, 3) := by decide +kernel
theorem dX12_odds_85 : decode cX12_odds 85 = .ok (.bipush 100, 2) := by decide +kernel
theorem dX12_odds_87 : decode cX12_odds 87 = .ok (.aload_n 0, 1) := by decide +kernel
theorem dX12_odds_88 : decode cX12_odds 88 = .ok (.getfield 105, 3) := by decide +kernel
theorem dX12_odds_91 : decode cX12_odds 91 = .ok (.bipush 9, 2) := by decide +kernel
theorem dX12_odds_93 : decode cX12_odds 93 = .ok (.iaload, 1) := by decide +kernel
theorem dX12_odds_94 : decode cX12_odds 94 = .ok (.isub, 1) := by decide +kernel
theorem dX12_odds_95 : decode cX12_odds 95 = .ok (.aload_n 0, 1) := by decide +kernel
theorem dX12_odds_96 : decode cX12_odds 96 = .ok (.invokevirtual 396, 3) := by decide +kernel
theorem dX12_odds_99 : decode cX12_odds 99 = .ok (.imul, 1) := by decide +kernel
theorem dX12_odds_100 : decode cX12_odds 100 = .ok (.goto 10, 3) := by decide +kernel
theorem dX12_odds_103 : decode cX12_odds 103 = .ok (.aload_n 0, 1) := by decide +kernel
theorem dX12_odds_104 : decode cX12_odds 104 = .ok (.getfield 105, 3) := by decide +kernel
theorem dX12_odds_107 : decode cX12_odds 107 = .ok (.bipush 9, 2) := by decide +kernel
theorem dX12_odds_109 : decode cX12_odds 109 = .ok (.iaload, 1) := by decide +kernel
theorem dX12_odds_110 : decode cX12_odds 110 = .ok (.iadd, 1) := by decide +kernel
theorem dX12_odds_111 : decode cX12_odds 111 = .ok (.istore_n 2, 1) := by decide +kernel
theorem dX12_odds_112 : decode cX12_odds 112 = .ok (.aload_n 0, 1) := by decide +kernel
theorem dX12_odds_113 : decode cX12_odds 113 = .ok (.invokevirtual 492, 3) := by decide +kernel
theorem dX12_odds_116 : decode cX12_odds 116 = .ok (.iinc 3 1, 3) := by decide +kernel
theorem dX12_odds_119 : decode cX12_odds 119 = .ok (.goto (-73), 3) := by decide +kernel
theorem dX12_odds_122 : decode cX12_odds 122 = .ok (.aload_n 0, 1) := by decide +kernel
theorem dX12_odds_123 : decode cX12_odds 123 = .ok (.invokevirtual 555, 3) := by decide +kernel
theorem dX12_odds_126 : decode cX12_odds 126 = .ok (.iload_n 2, 1) := by decide +kernel
theorem dX12_odds_127 : decode cX12_odds 127 = .ok (.ireturn, 1) := by decide +kernel
theorem dX12_personTold_0 : decode cX12_personTold 0 = .ok (.aload_n 0, 1) := by decide +kernel
theorem dX12_personTold_1 : decode cX12_personTold 1 = .ok (.getfield 257, 3) := by decide +kernel
theorem dX12_personTold_4 : decode cX12_personTold 4 = .ok (.ifCond .ne 20, 3) := by decide +kernel
theorem dX12_personTold_7 : decode cX12_personTold 7 = .ok (.aload_n 0, 1) := by decide +kernel
theorem dX12_personTold_8 : decode cX12_personTold 8 = .ok (.getfield 105, 3) := by decide +kernel
theorem dX12_personTold_11 : decode cX12_personTold 11 = .ok (.iconst 2, 1) := by decide +kernel
theorem dX12_personTold_12 : decode cX12_personTold 12 = .ok (.iaload, 1) := by decide +kernel
theorem dX12_personTold_13 : decode cX12_personTold 13 = .ok (.bipush 6, 2) := by decide +kernel
theorem dX12_personTold_15 : decode cX12_personTold 15 = .ok (.if_icmp .ne 9, 3) := by decide +kernel
theorem dX12_personTold_18 : decode cX12_personTold 18 = .ok (.aload_n 0, 1) := by decide +kernel
theorem dX12_personTold_19 : decode cX12_personTold 19 = .ok (.iconst 5, 1) := by decide +kernel
theorem dX12_personTold_20 : decode cX12_personTold 20 = .ok (.iload_n 1, 1) := by decide +kernel
theorem dX12_personTold_21 : decode cX12_personTold 21 = .ok (.invokevirtual 287, 3) := by decide +kernel
theorem dX12_personTold_24 : decode cX12_personTold 24 = .ok (.aload_n 0, 1) := by decide +kernel
theorem dX12_personTold_25 : decode cX12_personTold 25 = .ok (.invokevirtual 330, 3) := by decide +kernel
theorem dX12_personTold_28 : decode cX12_personTold 28 = .ok (.lstore_n 2, 1) := by decide +kernel
theorem dX12_personTold_29 : decode cX12_personTold 29 = .ok (.iconst 0, 1) := by decide +kernel
theorem dX12_personTold_30 : decode cX12_personTold 30 = .ok (.istore 4, 2) := by decide +kernel
theorem dX12_personTold_32 : decode cX12_personTold 32 = .ok (.iload 4, 2) := by decide +kernel
theorem dX12_personTold_34 : decode cX12_personTold 34 = .ok (.aload_n 0, 1) := by decide +kernel
theorem dX12_personTold_35 : decode cX12_personTold 35 = .ok (.getfield 105, 3) := by decide +kernel
theorem dX12_personTold_38 : decode cX12_personTold 38 = .ok (.iconst 2, 1) := by decide +kernel
theorem dX12_personTold_39 : decode cX12_personTold 39 = .ok (.iaload, 1) := by decide +kernel
theorem dX12_personTold_40 : decode cX12_personTold 40 = .ok (.if_icmp .ge 37, 3) := by decide +kernel
theorem dX12_personTold_43 : decode cX12_personTold 43 = .ok (.aload_n 0, 1) := by decide +kernel
theorem dX12_personTold_44 : decode cX12_personTold 44 = .ok (.getfield 257, 3) := by decide +kernel
theorem dX12_personTold_47 : decode cX12_personTold 47 = .ok (.ifCond .ne 24, 3) := by decide +kernel
theorem dX12_personTold_50 : decode cX12_personTold 50 = .ok (.aload_n 0, 1) := by decide +kernel
theorem dX12_personTold_51 : decode cX12_personTold 51 = .ok (.getfield 108, 3) := by decide +kernel
theorem dX12_personTold_54 : decode cX12_personTold 54 = .ok (.iload 4, 2) := by decide +kernel
theorem dX12_personTold_56 : decode cX12_personTold 56 = .ok (.laload, 1) := by decide +kernel
theorem dX12_personTold_57 : decode cX12_personTold 57 = .ok (.lload_n 2, 1) := by decide +kernel
theorem dX12_personTold_58 : decode cX12_personTold 58 = .ok (.lcmp, 1) := by decide +kernel
theorem dX12_personTold_59 : decode cX12_personTold 59 = .ok (.ifCond .ne 12, 3) := by decide +kernel
theorem dX12_personTold_62 : decode cX12_personTold 62 = .ok (.aload_n 0, 1) := by decide +kernel
theorem dX12_personTold_63 : decode cX12_personTold 63 = .ok (.iconst 3, 1) := by decide +kernel
theorem dX12_personTold_64 : decode cX12_personTold 64 = .ok (.aload_n 0, 1) := by decide +kernel
theorem dX12_personTold_65 : decode cX12_personTold 65 = .ok (.getfield 308, 3) := by decide +kernel
theorem dX12_personTold_68 : decode cX12_personTold 68 = .ok (.invokevirtual 287, 3) := by decide +kernel
theorem dX12_personTold_71 : decode cX12_personTold 71 = .ok (.iinc 4 1, 3) := by decide +kernel
theorem dX12_personTold_74 : decode cX12_personTold 74 = .ok (.goto (-42), 3) := by decide +kernel
theorem dX12_personTold_77 : decode cX12_personTold 77 = .ok (.aload_n 0, 1) := by decide +kernel
theorem dX12_personTold_78 : decode cX12_personTold 78 = .ok (.aload_n 0, 1) := by decide +kernel
theorem dX12_personTold_79 : decode cX12_personTold 79 = .ok (.getfield 30, 3) := by decide +kernel
theorem dX12_personTold_82 : decode cX12_personTold 82 = .ok (.invokevirtual 318, 3) := by decide +kernel
theorem dX12_personTold_85 : decode cX12_personTold 85 = .ok (.aload_n 0, 1) := by decide +kernel
theorem dX12_personTold_86 : decode cX12_personTold 86 = .ok (.iconst 1, 1) := by decide +kernel
theorem dX12_personTold_87 : decode cX12_personTold 87 = .ok (.bipush 24, 2) := by decide +kernel
theorem dX12_personTold_89 : decode cX12_personTold 89 = .ok (.invokevirtual 322, 3) := by decide +kernel
theorem dX12_personTold_92 : decode cX12_personTold 92 = .ok (.istore 4, 2) := by decide +kernel
theorem dX12_personTold_94 : decode cX12_personTold 94 = .ok (.aload_n 0, 1) := by decide +kernel
theorem dX12_personTold_95 : decode cX12_personTold 95 = .ok (.aload_n 0, 1) := by decide +kernel
theorem dX12_personTold_96 : decode cX12_personTold 96 = .ok (.getfield 33, 3) := by decide +kernel
theorem dX12_personTold_99 : decode cX12_personTold 99 = .ok (.invokevirtual 318, 3) := by decide +kernel
theorem dX12_personTold_102 : decode cX12_personTold 102 = .ok (.aload_n 0, 1) := by decide +kernel
theorem dX12_personTold_103 : decode cX12_personTold 103 = .ok (.iconst 1, 1) := by decide +kernel
theorem dX12_personTold_104 : decode cX12_personTold 104 = .ok (.bipush 24, 2) := by decide +kernel
theorem dX12_personTold_106 : decode cX12_personTold 106 = .ok (.invokevirtual 322, 3) := by decide +kernel
theorem dX12_personTold_109 : decode cX12_personTold 109 = .ok (.istore 5, 2) := by decide +kernel
theorem dX12_personTold_111 : decode cX12_personTold 111 = .ok (.aload_n 0, 1) := by decide +kernel
theorem dX12_personTold_112 : decode cX12_personTold 112 = .ok (.getfield 257, 3) := by decide +kernel
theorem dX12_personTold_115 : decode cX12_personTold 115 = .ok (.ifCond .eq 4, 3) := by decide +kernel
theorem dX12_personTold_118 : decode cX12_personTold 118 = .ok (.return_, 1) := by decide +kernel
theorem dX12_personTold_119 : decode cX12_personTold 119 = .ok (.aload_n 0, 1) := by decide +kernel
theorem dX12_personTold_120 : decode cX12_personTold 120 = .ok (.getfield 105, 3) := by decide +kernel
theorem dX12_personTold_123 : decode cX12_personTold 123 = .ok (.iconst 2, 1) := by decide +kernel
theorem dX12_personTold_124 : decode cX12_personTold 124 = .ok (.iaload, 1) := by decide +kernel
theorem dX12_personTold_125 : decode cX12_personTold 125 = .ok (.istore 6, 2) := by decide +kernel
theorem dX12_personTold_127 : decode cX12_personTold 127 = .ok (.aload_n 0, 1) := by decide +kernel
theorem dX12_personTold_128 : decode cX12_personTold 128 = .ok (.getfield 108, 3) := by decide +kernel
theorem dX12_personTold_131 : decode cX12_personTold 131 = .ok (.iload 6, 2) := by decide +kernel
theorem dX12_personTold_133 : decode cX12_personTold 133 = .ok (.lload_n 2, 1) := by decide +kernel
theorem dX12_personTold_134 : decode cX12_personTold 134 = .ok (.lastore, 1) := by decide +kernel
theorem dX12_personTold_135 : decode cX12_personTold 135 = .ok (.aload_n 0, 1) := by decide +kernel
theorem dX12_personTold_136 : decode cX12_personTold 136 = .ok (.getfield 112, 3) := by decide +kernel
theorem dX12_personTold_139 : decode cX12_personTold 139 = .ok (.iconst 2, 1) := by decide +kernel
theorem dX12_personTold_140 : decode cX12_personTold 140 = .ok (.iload 6, 2) := by decide +kernel
theorem dX12_personTold_142 : decode cX12_personTold 142 = .ok (.imul, 1) := by decide +kernel
theorem dX12_personTold_143 : decode cX12_personTold 143 = .ok (.iload 4, 2) := by decide +kernel
theorem dX12_personTold_145 : decode cX12_personTold 145 = .ok (.iastore, 1) := by decide +kernel
theorem dX12_personTold_146 : decode cX12_personTold 146 = .ok (.aload_n 0, 1) := by decide +kernel
theorem dX12_personTold_147 : decode cX12_personTold 147 = .ok (.getfield 112, 3) := by decide +kernel
theorem dX12_personTold_150 : decode cX12_personTold 150 = .ok (.iconst 2, 1) := by decide +kernel
theorem dX12_personTold_151 : decode cX12_personTold 151 = .ok (.iload 6, 2) := by decide +kernel
theorem dX12_personTold_153 : decode cX12_personTold 153 = .ok (.imul, 1) := by decide +kernel
theorem dX12_personTold_154 : decode cX12_personTold 154 = .ok (.iconst 1, 1) := by decide +kernel
theorem dX12_personTold_155 : decode cX12_personTold 155 = .ok (.iadd, 1) := by decide +kernel
theorem dX12_personTold_156 : decode cX12_personTold 156 = .ok (.iload 5, 2) := by decide +kernel
theorem dX12_personTold_158 : decode cX12_personTold 158 = .ok (.iastore, 1) := by decide +kernel
theorem dX12_personTold_159 : decode cX12_personTold 159 = .ok (.aload_n 0, 1) := by decide +kernel
theorem dX12_personTold_160 : decode cX12_personTold 160 = .ok (.getfield 105, 3) := by decide +kernel
theorem dX12_personTold_163 : decode cX12_personTold 163 = .ok (.iconst 2, 1) := by decide +kernel
theorem dX12_personTold_164 : decode cX12_personTold 164 = .ok (.dup2, 1) := by decide +kernel
theorem dX12_personTold_165 : decode cX12_personTold 165 = .ok (.iaload, 1) := by decide +kernel
theorem dX12_personTold_166 : decode cX12_personTold 166 = .ok (.iconst 1, 1) := by decide +kernel
theorem dX12_personTold_167 : decode cX12_personTold 167 = .ok (.iadd, 1) := by decide +kernel
theorem dX12_personTold_168 : decode cX12_personTold 168 = .ok (.iastore, 1) := by decide +kernel
theorem dX12_personTold_169 : decode cX12_personTold 169 = .ok (.return_, 1) := by decide +kernel
theorem dX12_statementTold_0 : decode cX12_statementTold 0 = .ok (.aload_n 0, 1) := by decide +kernel
theorem dX12_statementTold_1 : decode cX12_statementTold 1 = .ok (.getfield 263, 3) := by decide +kernel
theorem dX12_statementTold_4 : decode cX12_statementTold 4 = .ok (.istore_n 1, 1) := by decide +kernel
theorem dX12_statementTold_5 : decode cX12_statementTold 5 = .ok (.aload_n 0, 1) := by decide +kernel
theorem dX12_statementTold_6 : decode cX12_statementTold 6 = .ok (.getfield 355, 3) := by decide +kernel
theorem dX12_statementTold_9 : decode cX12_statementTold 9 = .ok (.bipush 60, 2) := by decide +kernel
theorem dX12_statementTold_11 : decode cX12_statementTold 11 = .ok (.if_icmp .ne 10, 3) := by decide +kernel
theorem dX12_statementTold_14 : decode cX12_statementTold 14 = .ok (.aload_n 0, 1) := by decide +kernel
theorem dX12_statementTold_15 : decode cX12_statementTold 15 = .ok (.iconst 5, 1) := by decide +kernel
theorem dX12_statementTold_16 : decode cX12_statementTold 16 = .ok (.iload_n 1, 1) := by decide +kernel
theorem dX12_statementTold_17 : decode cX12_statementTold 17 = .ok (.invokevirtual 287, 3) := by decide +kernel
theorem dX12_statementTold_20 : decode cX12_statementTold 20 = .ok (.return_, 1) := by decide +kernel
theorem dX12_statementTold_21 : decode cX12_statementTold 21 = .ok (.aload_n 0, 1) := by decide +kernel
theorem dX12_statementTold_22 : decode cX12_statementTold 22 = .ok (.aload_n 0, 1) := by decide +kernel
theorem dX12_statementTold_23 : decode cX12_statementTold 23 = .ok (.getfield 24, 3) := by decide +kernel
theorem dX12_statementTold_26 : decode cX12_statementTold 26 = .ok (.invokevirtual 284, 3) := by decide +kernel
theorem dX12_statementTold_29 : decode cX12_statementTold 29 = .ok (.ifCond .eq 19, 3) := by decide +kernel
theorem dX12_statementTold_32 : decode cX12_statementTold 32 = .ok (.aload_n 0, 1) := by decide +kernel
theorem dX12_statementTold_33 : decode cX12_statementTold 33 = .ok (.getfield 105, 3) := by decide +kernel
theorem dX12_statementTold_36 : decode cX12_statementTold 36 = .ok (.iconst 1, 1) := by decide +kernel
theorem dX12_statementTold_37 : decode cX12_statementTold 37 = .ok (.aload_n 0, 1) := by decide +kernel
theorem dX12_statementTold_38 : decode cX12_statementTold 38 = .ok (.iconst 1, 1) := by decide +kernel
theorem dX12_statementTold_39 : decode cX12_statementTold 39 = .ok (.bipush 6, 2) := by decide +kernel
theorem dX12_statementTold_41 : decode cX12_statementTold 41 = .ok (.invokevirtual 322, 3) := by decide +kernel
theorem dX12_statementTold_44 : decode cX12_statementTold 44 = .ok (.iastore, 1) := by decide +kernel
theorem dX12_statementTold_45 : decode cX12_statementTold 45 = .ok (.goto 128, 3) := by decide +kernel
theorem dX12_statementTold_48 : decode cX12_statementTold 48 = .ok (.aload_n 0, 1) := by decide +kernel
theorem dX12_statementTold_49 : decode cX12_statementTold 49 = .ok (.aload_n 0, 1) := by decide +kernel
theorem dX12_statementTold_50 : decode cX12_statementTold 50 = .ok (.getfield 27, 3) := by decide +kernel
theorem dX12_statementTold_53 : decode cX12_statementTold 53 = .ok (.invokevirtual 284, 3) := by decide +kernel
theorem dX12_statementTold_56 : decode cX12_statementTold 56 = .ok (.ifCond .eq 11, 3) := by decide +kernel
theorem dX12_statementTold_59 : decode cX12_statementTold 59 = .ok (.aload_n 0, 1) := by decide +kernel
theorem dX12_statementTold_60 : decode cX12_statementTold 60 = .ok (.iload_n 1, 1) := by decide +kernel
theorem dX12_statementTold_61 : decode cX12_statementTold 61 = .ok (.invokevirtual 358, 3) := by decide +kernel
theorem dX12_statementTold_64 : decode cX12_statementTold 64 = .ok (.goto 109, 3) := by decide +kernel
theorem dX12_statementTold_67 : decode cX12_statementTold 67 = .ok (.aload_n 0, 1) := by decide +kernel
theorem dX12_statementTold_68 : decode cX12_statementTold 68 = .ok (.aload_n 0, 1) := by decide +kernel
theorem dX12_statementTold_69 : decode cX12_statementTold 69 = .ok (.getfield 36, 3) := by decide +kernel
theorem dX12_statementTold_72 : decode cX12_statementTold 72 = .ok (.invokevirtual 284, 3) := by decide +kernel
theorem dX12_statementTold_75 : decode cX12_statementTold 75 = .ok (.ifCond .eq 10, 3) := by decide +kernel
theorem dX12_statementTold_78 : decode cX12_statementTold 78 = .ok (.aload_n 0, 1) := by decide +kernel
theorem dX12_statementTold_79 : decode cX12_statementTold 79 = .ok (.invokevirtual 361, 3) := by decide +kernel
theorem dX12_statementTold_82 : decode cX12_statementTold 82 = .ok (.goto 91, 3) := by decide +kernel
theorem dX12_statementTold_85 : decode cX12_statementTold 85 = .ok (.aload_n 0, 1) := by decide +kernel
theorem dX12_statementTold_86 : decode cX12_statementTold 86 = .ok (.aload_n 0, 1) := by decide +kernel
theorem dX12_statementTold_87 : decode cX12_statementTold 87 = .ok (.getfield 42, 3) := by decide +kernel
theorem dX12_statementTold_90 : decode cX12_statementTold 90 = .ok (.invokevirtual 284, 3) := by decide +kernel
theorem dX12_statementTold_93 : decode cX12_statementTold 93 = .ok (.ifCond .eq 19, 3) := by decide +kernel
theorem dX12_statementTold_96 : decode cX12_statementTold 96 = .ok (.aload_n 0, 1) := by decide +kernel
theorem dX12_statementTold_97 : decode cX12_statementTold 97 = .ok (.getfield 105, 3) := by decide +kernel
theorem dX12_statementTold_100 : decode cX12_statementTold 100 = .ok (.iconst 3, 1) := by decide +kernel
theorem dX12_statementTold_101 : decode cX12_statementTold 101 = .ok (.aload_n 0, 1) := by decide +kernel
theorem dX12_statementTold_102 : decode cX12_statementTold 102 = .ok (.iconst 0, 1) := by decide +kernel
theorem dX12_statementTold_103 : decode cX12_statementTold 103 = .ok (.bipush 9, 2) := by decide +kernel
theorem dX12_statementTold_105 : decode cX12_statementTold 105 = .ok (.invokevirtual 322, 3) := by decide +kernel
theorem dX12_statementTold_108 : decode cX12_statementTold 108 = .ok (.iastore, 1) := by decide +kernel
theorem dX12_statementTold_109 : decode cX12_statementTold 109 = .ok (.goto 64, 3) := by decide +kernel
theorem dX12_statementTold_112 : decode cX12_statementTold 112 = .ok (.aload_n 0, 1) := by decide +kernel
theorem dX12_statementTold_113 : decode cX12_statementTold 113 = .ok (.aload_n 0, 1) := by decide +kernel
theorem dX12_statementTold_114 : decode cX12_statementTold 114 = .ok (.getfield 45, 3) := by decide +kernel
theorem dX12_statementTold_117 : decode cX12_statementTold 117 = .ok (.invokevirtual 284, 3) := by decide +kernel
theorem dX12_statementTold_120 : decode cX12_statementTold 120 = .ok (.ifCond .eq 12, 3) := by decide +kernel
theorem dX12_statementTold_123 : decode cX12_statementTold 123 = .ok (.aload_n 0, 1) := by decide +kernel
theorem dX12_statementTold_124 : decode cX12_statementTold 124 = .ok (.iconst 0, 1) := by decide +kernel
theorem dX12_statementTold_125 : decode cX12_statementTold 125 = .ok (.iload_n 1, 1) := by decide +kernel
theorem dX12_statementTold_126 : decode cX12_statementTold 126 = .ok (.invokevirtual 364, 3) := by decide +kernel
theorem dX12_statementTold_129 : decode cX12_statementTold 129 = .ok (.goto 44, 3) := by decide +kernel
theorem dX12_statementTold_132 : decode cX12_statementTold 132 = .ok (.aload_n 0, 1) := by decide +kernel
theorem dX12_statementTold_133 : decode cX12_statementTold 133 = .ok (.aload_n 0, 1) := by decide +kernel
theorem dX12_statementTold_134 : decode cX12_statementTold 134 = .ok (.getfield 48, 3) := by decide +kernel
theorem dX12_statementTold_137 : decode cX12_statementTold 137 = .ok (.invokevirtual 284, 3) := by decide +kernel
theorem dX12_statementTold_140 : decode cX12_statementTold 140 = .ok (.ifCond .eq 12, 3) := by decide +kernel
theorem dX12_statementTold_143 : decode cX12_statementTold 143 = .ok (.aload_n 0, 1) := by decide +kernel
theorem dX12_statementTold_144 : decode cX12_statementTold 144 = .ok (.iconst 1, 1) := by decide +kernel
theorem dX12_statementTold_145 : decode cX12_statementTold 145 = .ok (.iload_n 1, 1) := by decide +kernel
theorem dX12_statementTold_146 : decode cX12_statementTold 146 = .ok (.invokevirtual 364, 3) := by decide +kernel
theorem dX12_statementTold_149 : decode cX12_statementTold 149 = .ok (.goto 24, 3) := by decide +kernel
theorem dX12_statementTold_152 : decode cX12_statementTold 152 = .ok (.aload_n 0, 1) := by decide +kernel
theorem dX12_statementTold_153 : decode cX12_statementTold 153 = .ok (.aload_n 0, 1) := by decide +kernel
theorem dX12_statementTold_154 : decode cX12_statementTold 154 = .ok (.getfield 51, 3) := by decide +kernel
theorem dX12_statementTold_157 : decode cX12_statementTold 157 = .ok (.invokevirtual 318, 3) := by decide +kernel
theorem dX12_statementTold_160 : decode cX12_statementTold 160 = .ok (.aload_n 0, 1) := by decide +kernel
theorem dX12_statementTold_161 : decode cX12_statementTold 161 = .ok (.getfield 105, 3) := by decide +kernel
theorem dX12_statementTold_164 : decode cX12_statementTold 164 = .ok (.iconst 4, 1) := by decide +kernel
theorem dX12_statementTold_165 : decode cX12_statementTold 165 = .ok (.aload_n 0, 1) := by decide +kernel
theorem dX12_statementTold_166 : decode cX12_statementTold 166 = .ok (.iconst 0, 1) := by decide +kernel
theorem dX12_statementTold_167 : decode cX12_statementTold 167 = .ok (.bipush 100, 2) := by decide +kernel
theorem dX12_statementTold_169 : decode cX12_statementTold 169 = .ok (.invokevirtual 322, 3) := by decide +kernel
theorem dX12_statementTold_172 : decode cX12_statementTold 172 = .ok (.iastore, 1) := by decide +kernel
theorem dX12_statementTold_173 : decode cX12_statementTold 173 = .ok (.aload_n 0, 1) := by decide +kernel
theorem dX12_statementTold_174 : decode cX12_statementTold 174 = .ok (.bipush 59, 2) := by decide +kernel
theorem dX12_statementTold_176 : decode cX12_statementTold 176 = .ok (.invokevirtual 326, 3) := by decide +kernel
theorem dX12_statementTold_179 : decode cX12_statementTold 179 = .ok (.aload_n 0, 1) := by decide +kernel
theorem dX12_statementTold_180 : decode cX12_statementTold 180 = .ok (.dup, 1) := by decide +kernel
theorem dX12_statementTold_181 : decode cX12_statementTold 181 = .ok (.getfield 355, 3) := by decide +kernel
theorem dX12_statementTold_184 : decode cX12_statementTold 184 = .ok (.iconst 1, 1) := by decide +kernel
theorem dX12_statementTold_185 : decode cX12_statementTold 185 = .ok (.iadd, 1) := by decide +kernel
theorem dX12_statementTold_186 : decode cX12_statementTold 186 = .ok (.putfield 355, 3) := by decide +kernel
theorem dX12_statementTold_189 : decode cX12_statementTold 189 = .ok (.return_, 1) := by decide +kernel
theorem dX12_stands_0 : decode cX12_stands 0 = .ok (.aload_n 0, 1) := by decide +kernel
theorem dX12_stands_1 : decode cX12_stands 1 = .ok (.iconst 1, 1) := by decide +kernel
theorem dX12_stands_2 : decode cX12_stands 2 = .ok (.putfield 383, 3) := by decide +kernel
theorem dX12_stands_5 : decode cX12_stands 5 = .ok (.iconst 0, 1) := by decide +kernel
theorem dX12_stands_6 : decode cX12_stands 6 = .ok (.istore_n 1, 1) := by decide +kernel
theorem dX12_stands_7 : decode cX12_stands 7 = .ok (.iload_n 1, 1) := by decide +kernel
theorem dX12_stands_8 : decode cX12_stands 8 = .ok (.iconst 5, 1) := by decide +kernel
theorem dX12_stands_9 : decode cX12_stands 9 = .ok (.if_icmp .ge 23, 3) := by decide +kernel
theorem dX12_stands_12 : decode cX12_stands 12 = .ok (.aload_n 0, 1) := by decide +kernel
theorem dX12_stands_13 : decode cX12_stands 13 = .ok (.getfield 105, 3) := by decide +kernel
theorem dX12_stands_16 : decode cX12_stands 16 = .ok (.iconst 5, 1) := by decide +kernel
theorem dX12_stands_17 : decode cX12_stands 17 = .ok (.iload_n 1, 1) := by decide +kernel
theorem dX12_stands_18 : decode cX12_stands 18 = .ok (.iadd, 1) := by decide +kernel
theorem dX12_stands_19 : decode cX12_stands 19 = .ok (.aload_n 0, 1) := by decide +kernel
theorem dX12_stands_20 : decode cX12_stands 20 = .ok (.getfield 105, 3) := by decide +kernel
theorem dX12_stands_23 : decode cX12_stands 23 = .ok (.iload_n 1, 1) := by decide +kernel
theorem dX12_stands_24 : decode cX12_stands 24 = .ok (.iaload, 1) := by decide +kernel
theorem dX12_stands_25 : decode cX12_stands 25 = .ok (.iastore, 1) := by decide +kernel
theorem dX12_stands_26 : decode cX12_stands 26 = .ok (.iinc 1 1, 3) := by decide +kernel
theorem dX12_stands_29 : decode cX12_stands 29 = .ok (.goto (-22), 3) := by decide +kernel
theorem dX12_stands_32 : decode cX12_stands 32 = .ok (.iconst 0, 1) := by decide +kernel
theorem dX12_stands_33 : decode cX12_stands 33 = .ok (.istore_n 1, 1) := by decide +kernel
theorem dX12_stands_34 : decode cX12_stands 34 = .ok (.iload_n 1, 1) := by decide +kernel
theorem dX12_stands_35 : decode cX12_stands 35 = .ok (.iconst 2, 1) := by decide +kernel
theorem dX12_stands_36 : decode cX12_stands 36 = .ok (.if_icmp .ge 37, 3) := by decide +kernel
theorem dX12_stands_39 : decode cX12_stands 39 = .ok (.aload_n 0, 1) := by decide +kernel
theorem dX12_stands_40 : decode cX12_stands 40 = .ok (.getfield 118, 3) := by decide +kernel
theorem dX12_stands_43 : decode cX12_stands 43 = .ok (.iconst 2, 1) := by decide +kernel
theorem dX12_stands_44 : decode cX12_stands 44 = .ok (.iload_n 1, 1) := by decide +kernel
theorem dX12_stands_45 : decode cX12_stands 45 = .ok (.iadd, 1) := by decide +kernel
theorem dX12_stands_46 : decode cX12_stands 46 = .ok (.aload_n 0, 1) := by decide +kernel
theorem dX12_stands_47 : decode cX12_stands 47 = .ok (.getfield 118, 3) := by decide +kernel
theorem dX12_stands_50 : decode cX12_stands 50 = .ok (.iload_n 1, 1) := by decide +kernel
theorem dX12_stands_51 : decode cX12_stands 51 = .ok (.iaload, 1) := by decide +kernel
theorem dX12_stands_52 : decode cX12_stands 52 = .ok (.iastore, 1) := by decide +kernel
theorem dX12_stands_53 : decode cX12_stands 53 = .ok (.aload_n 0, 1) := by decide +kernel
theorem dX12_stands_54 : decode cX12_stands 54 = .ok (.getfield 121, 3) := by decide +kernel
theorem dX12_stands_57 : decode cX12_stands 57 = .ok (.iconst 2, 1) := by decide +kernel
theorem dX12_stands_58 : decode cX12_stands 58 = .ok (.iload_n 1, 1) := by decide +kernel
theorem dX12_stands_59 : decode cX12_stands 59 = .ok (.iadd, 1) := by decide +kernel
theorem dX12_stands_60 : decode cX12_stands 60 = .ok (.aload_n 0, 1) := by decide +kernel
theorem dX12_stands_61 : decode cX12_stands 61 = .ok (.getfield 121, 3) := by decide +kernel
theorem dX12_stands_64 : decode cX12_stands 64 = .ok (.iload_n 1, 1) := by decide +kernel
theorem dX12_stands_65 : decode cX12_stands 65 = .ok (.iaload, 1) := by decide +kernel
theorem dX12_stands_66 : decode cX12_stands 66 = .ok (.iastore, 1) := by decide +kernel
theorem dX12_stands_67 : decode cX12_stands 67 = .ok (.iinc 1 1, 3) := by decide +kernel
theorem dX12_stands_70 : decode cX12_stands 70 = .ok (.goto (-36), 3) := by decide +kernel
theorem dX12_stands_73 : decode cX12_stands 73 = .ok (.iconst 0, 1) := by decide +kernel
theorem dX12_stands_74 : decode cX12_stands 74 = .ok (.istore_n 1, 1) := by decide +kernel
theorem dX12_stands_75 : decode cX12_stands 75 = .ok (.iload_n 1, 1) := by decide +kernel
theorem dX12_stands_76 : decode cX12_stands 76 = .ok (.bipush 6, 2) := by decide +kernel
theorem dX12_stands_78 : decode cX12_stands 78 = .ok (.if_icmp .ge 24, 3) := by decide +kernel
theorem dX12_stands_81 : decode cX12_stands 81 = .ok (.aload_n 0, 1) := by decide +kernel
theorem dX12_stands_82 : decode cX12_stands 82 = .ok (.getfield 108, 3) := by decide +kernel
theorem dX12_stands_85 : decode cX12_stands 85 = .ok (.bipush 6, 2) := by decide +kernel
theorem dX12_stands_87 : decode cX12_stands 87 = .ok (.iload_n 1, 1) := by decide +kernel
theorem dX12_stands_88 : decode cX12_stands 88 = .ok (.iadd, 1) := by decide +kernel
theorem dX12_stands_89 : decode cX12_stands 89 = .ok (.aload_n 0, 1) := by decide +kernel
theorem dX12_stands_90 : decode cX12_stands 90 = .ok (.getfield 108, 3) := by decide +kernel
theorem dX12_stands_93 : decode cX12_stands 93 = .ok (.iload_n 1, 1) := by decide +kernel
theorem dX12_stands_94 : decode cX12_stands 94 = .ok (.laload, 1) := by decide +kernel
theorem dX12_stands_95 : decode cX12_stands 95 = .ok (.lastore, 1) := by decide +kernel
theorem dX12_stands_96 : decode cX12_stands 96 = .ok (.iinc 1 1, 3) := by decide +kernel
theorem dX12_stands_99 : decode cX12_stands 99 = .ok (.goto (-24), 3) := by decide +kernel
theorem dX12_stands_102 : decode cX12_stands 102 = .ok (.iconst 0, 1) := by decide +kernel
theorem dX12_stands_103 : decode cX12_stands 103 = .ok (.istore_n 1, 1) := by decide +kernel
theorem dX12_stands_104 : decode cX12_stands 104 = .ok (.iload_n 1, 1) := by decide +kernel
theorem dX12_stands_105 : decode cX12_stands 105 = .ok (.bipush 12, 2) := by decide +kernel
theorem dX12_stands_107 : decode cX12_stands 107 = .ok (.if_icmp .ge 24, 3) := by decide +kernel
theorem dX12_stands_110 : decode cX12_stands 110 = .ok (.aload_n 0, 1) := by decide +kernel
theorem dX12_stands_111 : decode cX12_stands 111 = .ok (.getfield 112, 3) := by decide +kernel
theorem dX12_stands_114 : decode cX12_stands 114 = .ok (.bipush 12, 2) := by decide +kernel
theorem dX12_stands_116 : decode cX12_stands 116 = .ok (.iload_n 1, 1) := by decide +kernel
theorem dX12_stands_117 : decode cX12_stands 117 = .ok (.iadd, 1) := by decide +kernel
theorem dX12_stands_118 : decode cX12_stands 118 = .ok (.aload_n 0, 1) := by decide +kernel
theorem dX12_stands_119 : decode cX12_stands 119 = .ok (.getfield 112, 3) := by decide +kernel
theorem dX12_stands_122 : decode cX12_stands 122 = .ok (.iload_n 1, 1) := by decide +kernel
theorem dX12_stands_123 : decode cX12_stands 123 = .ok (.iaload, 1) := by decide +kernel
theorem dX12_stands_124 : decode cX12_stands 124 = .ok (.iastore, 1) := by decide +kernel
theorem dX12_stands_125 : decode cX12_stands 125 = .ok (.iinc 1 1, 3) := by decide +kernel
theorem dX12_stands_128 : decode cX12_stands 128 = .ok (.goto (-24), 3) := by decide +kernel
theorem dX12_stands_131 : decode cX12_stands 131 = .ok (.iconst 0, 1) := by decide +kernel
theorem dX12_stands_132 : decode cX12_stands 132 = .ok (.istore_n 1, 1) := by decide +kernel
theorem dX12_stands_133 : decode cX12_stands 133 = .ok (.iload_n 1, 1) := by decide +kernel
theorem dX12_stands_134 : decode cX12_stands 134 = .ok (.aload_n 0, 1) := by decide +kernel
theorem dX12_stands_135 : decode cX12_stands 135 = .ok (.getfield 352, 3) := by decide +kernel
theorem dX12_stands_138 : decode cX12_stands 138 = .ok (.if_icmp .ge 25, 3) := by decide +kernel
theorem dX12_stands_141 : decode cX12_stands 141 = .ok (.aload_n 0, 1) := by decide +kernel
theorem dX12_stands_142 : decode cX12_stands 142 = .ok (.getfield 124, 3) := by decide +kernel
theorem dX12_stands_145 : decode cX12_stands 145 = .ok (.sipush 1600, 3) := by decide +kernel
theorem dX12_stands_148 : decode cX12_stands 148 = .ok (.iload_n 1, 1) := by decide +kernel
theorem dX12_stands_149 : decode cX12_stands 149 = .ok (.iadd, 1) := by decide +kernel
theorem dX12_stands_150 : decode cX12_stands 150 = .ok (.aload_n 0, 1) := by decide +kernel
theorem dX12_stands_151 : decode cX12_stands 151 = .ok (.getfield 124, 3) := by decide +kernel
theorem dX12_stands_154 : decode cX12_stands 154 = .ok (.iload_n 1, 1) := by decide +kernel
theorem dX12_stands_155 : decode cX12_stands 155 = .ok (.iaload, 1) := by decide +kernel
theorem dX12_stands_156 : decode cX12_stands 156 = .ok (.iastore, 1) := by decide +kernel
theorem dX12_stands_157 : decode cX12_stands 157 = .ok (.iinc 1 1, 3) := by decide +kernel
theorem dX12_stands_160 : decode cX12_stands 160 = .ok (.goto (-27), 3) := by decide +kernel
theorem dX12_stands_163 : decode cX12_stands 163 = .ok (.iconst 0, 1) := by decide +kernel
theorem dX12_stands_164 : decode cX12_stands 164 = .ok (.istore_n 1, 1) := by decide +kernel
theorem dX12_stands_165 : decode cX12_stands 165 = .ok (.iload_n 1, 1) := by decide +kernel
theorem dX12_stands_166 : decode cX12_stands 166 = .ok (.sipush 158, 3) := by decide +kernel
theorem dX12_stands_169 : decode cX12_stands 169 = .ok (.if_icmp .ge 16, 3) := by decide +kernel
theorem dX12_stands_172 : decode cX12_stands 172 = .ok (.aload_n 0, 1) := by decide +kernel
theorem dX12_stands_173 : decode cX12_stands 173 = .ok (.getfield 127, 3) := by decide +kernel
theorem dX12_stands_176 : decode cX12_stands 176 = .ok (.iload_n 1, 1) := by decide +kernel
theorem dX12_stands_177 : decode cX12_stands 177 = .ok (.iconst 0, 1) := by decide +kernel
theorem dX12_stands_178 : decode cX12_stands 178 = .ok (.iastore, 1) := by decide +kernel
theorem dX12_stands_179 : decode cX12_stands 179 = .ok (.iinc 1 1, 3) := by decide +kernel
theorem dX12_stands_182 : decode cX12_stands 182 = .ok (.goto (-17), 3) := by decide +kernel
theorem dX12_stands_185 : decode cX12_stands 185 = .ok (.iconst 1, 1) := by decide +kernel
theorem dX12_stands_186 : decode cX12_stands 186 = .ok (.istore_n 1, 1) := by decide +kernel
theorem dX12_stands_187 : decode cX12_stands 187 = .ok (.iload_n 1, 1) := by decide +kernel
theorem dX12_stands_188 : decode cX12_stands 188 = .ok (.bipush 24, 2) := by decide +kernel
theorem dX12_stands_190 : decode cX12_stands 190 = .ok (.if_icmp .gt 21, 3) := by decide +kernel
theorem dX12_stands_193 : decode cX12_stands 193 = .ok (.aload_n 0, 1) := by decide +kernel
theorem dX12_stands_194 : decode cX12_stands 194 = .ok (.getfield 127, 3) := by decide +kernel
theorem dX12_stands_197 : decode cX12_stands 197 = .ok (.iload_n 1, 1) := by decide +kernel
theorem dX12_stands_198 : decode cX12_stands 198 = .ok (.aload_n 0, 1) := by decide +kernel
theorem dX12_stands_199 : decode cX12_stands 199 = .ok (.getfield 115, 3) := by decide +kernel
theorem dX12_stands_202 : decode cX12_stands 202 = .ok (.iload_n 1, 1) := by decide +kernel
theorem dX12_stands_203 : decode cX12_stands 203 = .ok (.iaload, 1) := by decide +kernel
theorem dX12_stands_204 : decode cX12_stands 204 = .ok (.iastore, 1) := by decide +kernel
theorem dX12_stands_205 : decode cX12_stands 205 = .ok (.iinc 1 1, 3) := by decide +kernel
theorem dX12_stands_208 : decode cX12_stands 208 = .ok (.goto (-21), 3) := by decide +kernel
theorem dX12_stands_211 : decode cX12_stands 211 = .ok (.iconst 0, 1) := by decide +kernel
theorem dX12_stands_212 : decode cX12_stands 212 = .ok (.istore_n 1, 1) := by decide +kernel
theorem dX12_stands_213 : decode cX12_stands 213 = .ok (.iload_n 1, 1) := by decide +kernel
theorem dX12_stands_214 : decode cX12_stands 214 = .ok (.aload_n 0, 1) := by decide +kernel
theorem dX12_stands_215 : decode cX12_stands 215 = .ok (.getfield 105, 3) := by decide +kernel
theorem dX12_stands_218 : decode cX12_stands 218 = .ok (.iconst 2, 1) := by decide +kernel
theorem dX12_stands_219 : decode cX12_stands 219 = .ok (.iaload, 1) := by decide +kernel
theorem dX12_stands_220 : decode cX12_stands 220 = .ok (.if_icmp .ge 14, 3) := by decide +kernel
theorem dX12_stands_223 : decode cX12_stands 223 = .ok (.aload_n 0, 1) := by decide +kernel
theorem dX12_stands_224 : decode cX12_stands 224 = .ok (.iload_n 1, 1) := by decide +kernel
theorem dX12_stands_225 : decode cX12_stands 225 = .ok (.invokevirtual 387, 3) := by decide +kernel
theorem dX12_stands_228 : decode cX12_stands 228 = .ok (.iinc 1 1, 3) := by decide +kernel
theorem dX12_stands_231 : decode cX12_stands 231 = .ok (.goto (-18), 3) := by decide +kernel
theorem dX12_stands_234 : decode cX12_stands 234 = .ok (.aload_n 0, 1) := by decide +kernel
theorem dX12_stands_235 : decode cX12_stands 235 = .ok (.iconst 0, 1) := by decide +kernel
theorem dX12_stands_236 : decode cX12_stands 236 = .ok (.putfield 390, 3) := by decide +kernel
theorem dX12_stands_239 : decode cX12_stands 239 = .ok (.aload_n 0, 1) := by decide +kernel
theorem dX12_stands_240 : decode cX12_stands 240 = .ok (.iconst 0, 1) := by decide +kernel
theorem dX12_stands_241 : decode cX12_stands 241 = .ok (.putfield 393, 3) := by decide +kernel
theorem dX12_stands_244 : decode cX12_stands 244 = .ok (.return_, 1) := by decide +kernel
theorem dX12_office_0 : decode cX12_office 0 = .ok (.aload_n 0, 1) := by decide +kernel
theorem dX12_office_1 : decode cX12_office 1 = .ok (.aload_n 0, 1) := by decide +kernel
theorem dX12_office_2 : decode cX12_office 2 = .ok (.getfield 254, 3) := by decide +kernel
theorem dX12_office_5 : decode cX12_office 5 = .ok (.putfield 266, 3) := by decide +kernel
theorem dX12_office_8 : decode cX12_office 8 = .ok (.aload_n 0, 1) := by decide +kernel
theorem dX12_office_9 : decode cX12_office 9 = .ok (.iconst 0, 1) := by decide +kernel
theorem dX12_office_10 : decode cX12_office 10 = .ok (.putfield 254, 3) := by decide +kernel
theorem dX12_office_13 : decode cX12_office 13 = .ok (.aload_n 0, 1) := by decide +kernel
theorem dX12_office_14 : decode cX12_office 14 = .ok (.iconst 0, 1) := by decide +kernel
theorem dX12_office_15 : decode cX12_office 15 = .ok (.putfield 263, 3) := by decide +kernel
theorem dX12_office_18 : decode cX12_office 18 = .ok (.aload_n 0, 1) := by decide +kernel
theorem dX12_office_19 : decode cX12_office 19 = .ok (.iconst (-1), 1) := by decide +kernel
theorem dX12_office_20 : decode cX12_office 20 = .ok (.putfield 277, 3) := by decide +kernel
theorem dX12_office_23 : decode cX12_office 23 = .ok (.aload_n 0, 1) := by decide +kernel
theorem dX12_office_24 : decode cX12_office 24 = .ok (.iconst 0, 1) := by decide +kernel
theorem dX12_office_25 : decode cX12_office 25 = .ok (.putfield 257, 3) := by decide +kernel
theorem dX12_office_28 : decode cX12_office 28 = .ok (.aload_n 0, 1) := by decide +kernel
theorem dX12_office_29 : decode cX12_office 29 = .ok (.iconst (-1), 1) := by decide +kernel
theorem dX12_office_30 : decode cX12_office 30 = .ok (.putfield 260, 3) := by decide +kernel
theorem dX12_office_33 : decode cX12_office 33 = .ok (.aload_n 0, 1) := by decide +kernel
theorem dX12_office_34 : decode cX12_office 34 = .ok (.iconst 0, 1) := by decide +kernel
theorem dX12_office_35 : decode cX12_office 35 = .ok (.putfield 352, 3) := by decide +kernel
theorem dX12_office_38 : decode cX12_office 38 = .ok (.iconst 0, 1) := by decide +kernel
theorem dX12_office_39 : decode cX12_office 39 = .ok (.istore_n 1, 1) := by decide +kernel
theorem dX12_office_40 : decode cX12_office 40 = .ok (.iload_n 1, 1) := by decide +kernel
theorem dX12_office_41 : decode cX12_office 41 = .ok (.iconst 5, 1) := by decide +kernel
theorem dX12_office_42 : decode cX12_office 42 = .ok (.if_icmp .ge 25, 3) := by decide +kernel
theorem dX12_office_45 : decode cX12_office 45 = .ok (.aload_n 0, 1) := by decide +kernel
theorem dX12_office_46 : decode cX12_office 46 = .ok (.getfield 105, 3) := by decide +kernel
theorem dX12_office_49 : decode cX12_office 49 = .ok (.iload_n 1, 1) := by decide +kernel
theorem dX12_office_50 : decode cX12_office 50 = .ok (.iload_n 1, 1) := by decide +kernel
theorem dX12_office_51 : decode cX12_office 51 = .ok (.iconst 1, 1) := by decide +kernel
theorem dX12_office_52 : decode cX12_office 52 = .ok (.if_icmp .ne 7, 3) := by decide +kernel
theorem dX12_office_55 : decode cX12_office 55 = .ok (.iconst 4, 1) := by decide +kernel
theorem dX12_office_56 : decode cX12_office 56 = .ok (.goto 4, 3) := by decide +kernel
theorem dX12_office_59 : decode cX12_office 59 = .ok (.iconst 0, 1) := by decide +kernel
theorem dX12_office_60 : decode cX12_office 60 = .ok (.iastore, 1) := by decide +kernel
theorem dX12_office_61 : decode cX12_office 61 = .ok (.iinc 1 1, 3) := by decide +kernel
theorem dX12_office_64 : decode cX12_office 64 = .ok (.goto (-24), 3) := by decide +kernel
theorem dX12_office_67 : decode cX12_office 67 = .ok (.iconst 0, 1) := by decide +kernel
theorem dX12_office_68 : decode cX12_office 68 = .ok (.istore_n 1, 1) := by decide +kernel
theorem dX12_office_69 : decode cX12_office 69 = .ok (.iload_n 1, 1) := by decide +kernel
theorem dX12_office_70 : decode cX12_office 70 = .ok (.bipush 24, 2) := by decide +kernel
theorem dX12_office_72 : decode cX12_office 72 = .ok (.if_icmp .gt 16, 3) := by decide +kernel
theorem dX12_office_75 : decode cX12_office 75 = .ok (.aload_n 0, 1) := by decide +kernel
theorem dX12_office_76 : decode cX12_office 76 = .ok (.getfield 115, 3) := by decide +kernel
theorem dX12_office_79 : decode cX12_office 79 = .ok (.iload_n 1, 1) := by decide +kernel
theorem dX12_office_80 : decode cX12_office 80 = .ok (.iconst 0, 1) := by decide +kernel
theorem dX12_office_81 : decode cX12_office 81 = .ok (.iastore, 1) := by decide +kernel
theorem dX12_office_82 : decode cX12_office 82 = .ok (.iinc 1 1, 3) := by decide +kernel
theorem dX12_office_85 : decode cX12_office 85 = .ok (.goto (-16), 3) := by decide +kernel
theorem dX12_office_88 : decode cX12_office 88 = .ok (.iconst 0, 1) := by decide +kernel
theorem dX12_office_89 : decode cX12_office 89 = .ok (.istore_n 1, 1) := by decide +kernel
theorem dX12_office_90 : decode cX12_office 90 = .ok (.iload_n 1, 1) := by decide +kernel
theorem dX12_office_91 : decode cX12_office 91 = .ok (.iconst 2, 1) := by decide +kernel
theorem dX12_office_92 : decode cX12_office 92 = .ok (.if_icmp .ge 16, 3) := by decide +kernel
theorem dX12_office_95 : decode cX12_office 95 = .ok (.aload_n 0, 1) := by decide +kernel
theorem dX12_office_96 : decode cX12_office 96 = .ok (.getfield 118, 3) := by decide +kernel
theorem dX12_office_99 : decode cX12_office 99 = .ok (.iload_n 1, 1) := by decide +kernel
theorem dX12_office_100 : decode cX12_office 100 = .ok (.iconst (-1), 1) := by decide +kernel
theorem dX12_office_101 : decode cX12_office 101 = .ok (.iastore, 1) := by decide +kernel
theorem dX12_office_102 : decode cX12_office 102 = .ok (.iinc 1 1, 3) := by decide +kernel
theorem dX12_office_105 : decode cX12_office 105 = .ok (.goto (-15), 3) := by decide +kernel
theorem dX12_office_108 : decode cX12_office 108 = .ok (.aload_n 0, 1) := by decide +kernel
theorem dX12_office_109 : decode cX12_office 109 = .ok (.invokevirtual 367, 3) := by decide +kernel
theorem dX12_office_112 : decode cX12_office 112 = .ok (.aload_n 0, 1) := by decide +kernel
theorem dX12_office_113 : decode cX12_office 113 = .ok (.iconst 1, 1) := by decide +kernel
theorem dX12_office_114 : decode cX12_office 114 = .ok (.putfield 355, 3) := by decide +kernel
theorem dX12_office_117 : decode cX12_office 117 = .ok (.aload_n 0, 1) := by decide +kernel
theorem dX12_office_118 : decode cX12_office 118 = .ok (.getfield 257, 3) := by decide +kernel
theorem dX12_office_121 : decode cX12_office 121 = .ok (.ifCond .ne 18, 3) := by decide +kernel
theorem dX12_office_124 : decode cX12_office 124 = .ok (.aload_n 0, 1) := by decide +kernel
theorem dX12_office_125 : decode cX12_office 125 = .ok (.invokevirtual 269, 3) := by decide +kernel
theorem dX12_office_128 : decode cX12_office 128 = .ok (.iconst (-1), 1) := by decide +kernel
theorem dX12_office_129 : decode cX12_office 129 = .ok (.if_icmp .eq 10, 3) := by decide +kernel
theorem dX12_office_132 : decode cX12_office 132 = .ok (.aload_n 0, 1) := by decide +kernel
theorem dX12_office_133 : decode cX12_office 133 = .ok (.invokevirtual 370, 3) := by decide +kernel
theorem dX12_office_136 : decode cX12_office 136 = .ok (.goto (-19), 3) := by decide +kernel
theorem dX12_office_139 : decode cX12_office 139 = .ok (.aload_n 0, 1) := by decide +kernel
theorem dX12_office_140 : decode cX12_office 140 = .ok (.aload_n 0, 1) := by decide +kernel
theorem dX12_office_141 : decode cX12_office 141 = .ok (.getfield 257, 3) := by decide +kernel
theorem dX12_office_144 : decode cX12_office 144 = .ok (.putfield 373, 3) := by decide +kernel
theorem dX12_office_147 : decode cX12_office 147 = .ok (.aload_n 0, 1) := by decide +kernel
theorem dX12_office_148 : decode cX12_office 148 = .ok (.aload_n 0, 1) := by decide +kernel
theorem dX12_office_149 : decode cX12_office 149 = .ok (.getfield 260, 3) := by decide +kernel
theorem dX12_office_152 : decode cX12_office 152 = .ok (.putfield 13, 3) := by decide +kernel
theorem dX12_office_155 : decode cX12_office 155 = .ok (.aload_n 0, 1) := by decide +kernel
theorem dX12_office_156 : decode cX12_office 156 = .ok (.getfield 257, 3) := by decide +kernel
theorem dX12_office_159 : decode cX12_office 159 = .ok (.ifCond .eq 9, 3) := by decide +kernel
theorem dX12_office_162 : decode cX12_office 162 = .ok (.aload_n 0, 1) := by decide +kernel
theorem dX12_office_163 : decode cX12_office 163 = .ok (.iconst 1, 1) := by decide +kernel
theorem dX12_office_164 : decode cX12_office 164 = .ok (.invokevirtual 376, 3) := by decide +kernel
theorem dX12_office_167 : decode cX12_office 167 = .ok (.ireturn, 1) := by decide +kernel
theorem dX12_office_168 : decode cX12_office 168 = .ok (.aload_n 0, 1) := by decide +kernel
theorem dX12_office_169 : decode cX12_office 169 = .ok (.invokevirtual 380, 3) := by decide +kernel
theorem dX12_office_172 : decode cX12_office 172 = .ok (.aload_n 0, 1) := by decide +kernel
theorem dX12_office_173 : decode cX12_office 173 = .ok (.getfield 355, 3) := by decide +kernel
theorem dX12_office_176 : decode cX12_office 176 = .ok (.ireturn, 1) := by decide +kernel
theorem dX12_on_0 : decode cX12_on 0 = .ok (.aload_n 0, 1) := by decide +kernel
theorem dX12_on_1 : decode cX12_on 1 = .ok (.getfield 254, 3) := by decide +kernel
theorem dX12_on_4 : decode cX12_on 4 = .ok (.istore_n 1, 1) := by decide +kernel
theorem dX12_on_5 : decode cX12_on 5 = .ok (.aload_n 0, 1) := by decide +kernel
theorem dX12_on_6 : decode cX12_on 6 = .ok (.iconst 0, 1) := by decide +kernel
theorem dX12_on_7 : decode cX12_on 7 = .ok (.putfield 254, 3) := by decide +kernel
theorem dX12_on_10 : decode cX12_on 10 = .ok (.aload_n 0, 1) := by decide +kernel
theorem dX12_on_11 : decode cX12_on 11 = .ok (.iload_n 1, 1) := by decide +kernel
theorem dX12_on_12 : decode cX12_on 12 = .ok (.invokevirtual 714, 3) := by decide +kernel
theorem dX12_on_15 : decode cX12_on 15 = .ok (.ifCond .ne 9, 3) := by decide +kernel
theorem dX12_on_18 : decode cX12_on 18 = .ok (.aload_n 0, 1) := by decide +kernel
theorem dX12_on_19 : decode cX12_on 19 = .ok (.iconst 5, 1) := by decide +kernel
theorem dX12_on_20 : decode cX12_on 20 = .ok (.invokevirtual 599, 3) := by decide +kernel
theorem dX12_on_23 : decode cX12_on 23 = .ok (.ireturn, 1) := by decide +kernel
theorem dX12_on_24 : decode cX12_on 24 = .ok (.aload_n 0, 1) := by decide +kernel
theorem dX12_on_25 : decode cX12_on 25 = .ok (.getfield 127, 3) := by decide +kernel
theorem dX12_on_28 : decode cX12_on 28 = .ok (.iconst 0, 1) := by decide +kernel
theorem dX12_on_29 : decode cX12_on 29 = .ok (.aload_n 0, 1) := by decide +kernel
theorem dX12_on_30 : decode cX12_on 30 = .ok (.iconst 0, 1) := by decide +kernel
theorem dX12_on_31 : decode cX12_on 31 = .ok (.invokevirtual 711, 3) := by decide +kernel
theorem dX12_on_34 : decode cX12_on 34 = .ok (.iastore, 1) := by decide +kernel
theorem dX12_on_35 : decode cX12_on 35 = .ok (.iconst 1, 1) := by decide +kernel
theorem dX12_on_36 : decode cX12_on 36 = .ok (.istore_n 2, 1) := by decide +kernel
theorem dX12_on_37 : decode cX12_on 37 = .ok (.iload_n 2, 1) := by decide +kernel
theorem dX12_on_38 : decode cX12_on 38 = .ok (.aload_n 0, 1) := by decide +kernel
theorem dX12_on_39 : decode cX12_on 39 = .ok (.invokevirtual 396, 3) := by decide +kernel
theorem dX12_on_42 : decode cX12_on 42 = .ok (.if_icmp .gt 22, 3) := by decide +kernel
theorem dX12_on_45 : decode cX12_on 45 = .ok (.aload_n 0, 1) := by decide +kernel
theorem dX12_on_46 : decode cX12_on 46 = .ok (.getfield 127, 3) := by decide +kernel
theorem dX12_on_49 : decode cX12_on 49 = .ok (.iload_n 2, 1) := by decide +kernel
theorem dX12_on_50 : decode cX12_on 50 = .ok (.aload_n 0, 1) := by decide +kernel
theorem dX12_on_51 : decode cX12_on 51 = .ok (.iconst 2, 1) := by decide +kernel
theorem dX12_on_52 : decode cX12_on 52 = .ok (.iload_n 2, 1) := by decide +kernel
theorem dX12_on_53 : decode cX12_on 53 = .ok (.imul, 1) := by decide +kernel
theorem dX12_on_54 : decode cX12_on 54 = .ok (.invokevirtual 711, 3) := by decide +kernel
theorem dX12_on_57 : decode cX12_on 57 = .ok (.iastore, 1) := by decide +kernel
theorem dX12_on_58 : decode cX12_on 58 = .ok (.iinc 2 1, 3) := by decide +kernel
theorem dX12_on_61 : decode cX12_on 61 = .ok (.goto (-24), 3) := by decide +kernel
theorem dX12_on_64 : decode cX12_on 64 = .ok (.iconst 2, 1) := by decide +kernel
theorem dX12_on_65 : decode cX12_on 65 = .ok (.iconst 2, 1) := by decide +kernel
theorem dX12_on_66 : decode cX12_on 66 = .ok (.aload_n 0, 1) := by decide +kernel
theorem dX12_on_67 : decode cX12_on 67 = .ok (.invokevirtual 396, 3) := by decide +kernel
theorem dX12_on_70 : decode cX12_on 70 = .ok (.imul, 1) := by decide +kernel
theorem dX12_on_71 : decode cX12_on 71 = .ok (.iadd, 1) := by decide +kernel
theorem dX12_on_72 : decode cX12_on 72 = .ok (.istore_n 2, 1) := by decide +kernel
theorem dX12_on_73 : decode cX12_on 73 = .ok (.iconst 0, 1) := by decide +kernel
theorem dX12_on_74 : decode cX12_on 74 = .ok (.istore_n 3, 1) := by decide +kernel
theorem dX12_on_75 : decode cX12_on 75 = .ok (.iload_n 3, 1) := by decide +kernel
theorem dX12_on_76 : decode cX12_on 76 = .ok (.aload_n 0, 1) := by decide +kernel
theorem dX12_on_77 : decode cX12_on 77 = .ok (.invokevirtual 399, 3) := by decide +kernel
theorem dX12_on_80 : decode cX12_on 80 = .ok (.if_icmp .ge 52, 3) := by decide +kernel
theorem dX12_on_83 : decode cX12_on 83 = .ok (.aload_n 0, 1) := by decide +kernel
theorem dX12_on_84 : decode cX12_on 84 = .ok (.getfield 127, 3) := by decide +kernel
theorem dX12_on_87 : decode cX12_on 87 = .ok (.bipush 25, 2) := by decide +kernel
theorem dX12_on_89 : decode cX12_on 89 = .ok (.iconst 2, 1) := by decide +kernel
theorem dX12_on_90 : decode cX12_on 90 = .ok (.iload_n 3, 1) := by decide +kernel
theorem dX12_on_91 : decode cX12_on 91 = .ok (.imul, 1) := by decide +kernel
theorem dX12_on_92 : decode cX12_on 92 = .ok (.iadd, 1) := by decide +kernel
theorem dX12_on_93 : decode cX12_on 93 = .ok (.aload_n 0, 1) := by decide +kernel
theorem dX12_on_94 : decode cX12_on 94 = .ok (.getfield 7, 3) := by decide +kernel
theorem dX12_on_97 : decode cX12_on 97 = .ok (.iload_n 2, 1) := by decide +kernel
theorem dX12_on_98 : decode cX12_on 98 = .ok (.iconst 3, 1) := by decide +kernel
theorem dX12_on_99 : decode cX12_on 99 = .ok (.iload_n 3, 1) := by decide +kernel
theorem dX12_on_100 : decode cX12_on 100 = .ok (.imul, 1) := by decide +kernel
theorem dX12_on_101 : decode cX12_on 101 = .ok (.iadd, 1) := by decide +kernel
theorem dX12_on_102 : decode cX12_on 102 = .ok (.iaload, 1) := by decide +kernel
theorem dX12_on_103 : decode cX12_on 103 = .ok (.iastore, 1) := by decide +kernel
theorem dX12_on_104 : decode cX12_on 104 = .ok (.aload_n 0, 1) := by decide +kernel
theorem dX12_on_105 : decode cX12_on 105 = .ok (.getfield 127, 3) := by decide +kernel
theorem dX12_on_108 : decode cX12_on 108 = .ok (.bipush 26, 2) := by decide +kernel
theorem dX12_on_110 : decode cX12_on 110 = .ok (.iconst 2, 1) := by decide +kernel
theorem dX12_on_111 : decode cX12_on 111 = .ok (.iload_n 3, 1) := by decide +kernel
theorem dX12_on_112 : decode cX12_on 112 = .ok (.imul, 1) := by decide +kernel
theorem dX12_on_113 : decode cX12_on 113 = .ok (.iadd, 1) := by decide +kernel
theorem dX12_on_114 : decode cX12_on 114 = .ok (.aload_n 0, 1) := by decide +kernel
theorem dX12_on_115 : decode cX12_on 115 = .ok (.iload_n 2, 1) := by decide +kernel
theorem dX12_on_116 : decode cX12_on 116 = .ok (.iconst 3, 1) := by decide +kernel
theorem dX12_on_117 : decode cX12_on 117 = .ok (.iload_n 3, 1) := by decide +kernel
theorem dX12_on_118 : decode cX12_on 118 = .ok (.imul, 1) := by decide +kernel
theorem dX12_on_119 : decode cX12_on 119 = .ok (.iadd, 1) := by decide +kernel
theorem dX12_on_120 : decode cX12_on 120 = .ok (.iconst 1, 1) := by decide +kernel
theorem dX12_on_121 : decode cX12_on 121 = .ok (.iadd, 1) := by decide +kernel
theorem dX12_on_122 : decode cX12_on 122 = .ok (.invokevirtual 711, 3) := by decide +kernel
theorem dX12_on_125 : decode cX12_on 125 = .ok (.iastore, 1) := by decide +kernel
theorem dX12_on_126 : decode cX12_on 126 = .ok (.iinc 3 1, 3) := by decide +kernel
theorem dX12_on_129 : decode cX12_on 129 = .ok (.goto (-54), 3) := by decide +kernel
theorem dX12_on_132 : decode cX12_on 132 = .ok (.aload_n 0, 1) := by decide +kernel
theorem dX12_on_133 : decode cX12_on 133 = .ok (.getfield 127, 3) := by decide +kernel
theorem dX12_on_136 : decode cX12_on 136 = .ok (.bipush 37, 2) := by decide +kernel
theorem dX12_on_138 : decode cX12_on 138 = .ok (.iconst 0, 1) := by decide +kernel
theorem dX12_on_139 : decode cX12_on 139 = .ok (.iastore, 1) := by decide +kernel
theorem dX12_on_140 : decode cX12_on 140 = .ok (.aload_n 0, 1) := by decide +kernel
theorem dX12_on_141 : decode cX12_on 141 = .ok (.iconst 0, 1) := by decide +kernel
theorem dX12_on_142 : decode cX12_on 142 = .ok (.putfield 390, 3) := by decide +kernel
theorem dX12_on_145 : decode cX12_on 145 = .ok (.iconst 1, 1) := by decide +kernel
theorem dX12_on_146 : decode cX12_on 146 = .ok (.ireturn, 1) := by decide +kernel
theorem dX12_takenBy_0 : decode cX12_takenBy 0 = .ok (.aload_n 0, 1) := by decide +kernel
theorem dX12_takenBy_1 : decode cX12_takenBy 1 = .ok (.iload_n 1, 1) := by decide +kernel
theorem dX12_takenBy_2 : decode cX12_takenBy 2 = .ok (.invokevirtual 456, 3) := by decide +kernel
theorem dX12_takenBy_5 : decode cX12_takenBy 5 = .ok (.istore_n 2, 1) := by decide +kernel
theorem dX12_takenBy_6 : decode cX12_takenBy 6 = .ok (.iload_n 2, 1) := by decide +kernel
theorem dX12_takenBy_7 : decode cX12_takenBy 7 = .ok (.iconst (-1), 1) := by decide +kernel
theorem dX12_takenBy_8 : decode cX12_takenBy 8 = .ok (.if_icmp .ne 7, 3) := by decide +kernel
theorem dX12_takenBy_11 : decode cX12_takenBy 11 = .ok (.iconst (-1), 1) := by decide +kernel
theorem dX12_takenBy_12 : decode cX12_takenBy 12 = .ok (.goto 15, 3) := by decide +kernel
theorem dX12_takenBy_15 : decode cX12_takenBy 15 = .ok (.aload_n 0, 1) := by decide +kernel
theorem dX12_takenBy_16 : decode cX12_takenBy 16 = .ok (.getfield 139, 3) := by decide +kernel
theorem dX12_takenBy_19 : decode cX12_takenBy 19 = .ok (.sipush 2000, 3) := by decide +kernel
theorem dX12_takenBy_22 : decode cX12_takenBy 22 = .ok (.iload_n 1, 1) := by decide +kernel
theorem dX12_takenBy_23 : decode cX12_takenBy 23 = .ok (.imul, 1) := by decide +kernel
theorem dX12_takenBy_24 : decode cX12_takenBy 24 = .ok (.iload_n 2, 1) := by decide +kernel
theorem dX12_takenBy_25 : decode cX12_takenBy 25 = .ok (.iadd, 1) := by decide +kernel
theorem dX12_takenBy_26 : decode cX12_takenBy 26 = .ok (.iaload, 1) := by decide +kernel
theorem dX12_takenBy_27 : decode cX12_takenBy 27 = .ok (.ireturn, 1) := by decide +kernel
theorem dX12_person_0 : decode cX12_person 0 = .ok (.aload_n 0, 1) := by decide +kernel
theorem dX12_person_1 : decode cX12_person 1 = .ok (.iload_n 1, 1) := by decide +kernel
theorem dX12_person_2 : decode cX12_person 2 = .ok (.invokevirtual 502, 3) := by decide +kernel
theorem dX12_person_5 : decode cX12_person 5 = .ok (.ifCond .ne 5, 3) := by decide +kernel
theorem dX12_person_8 : decode cX12_person 8 = .ok (.iconst (-1), 1) := by decide +kernel
theorem dX12_person_9 : decode cX12_person 9 = .ok (.ireturn, 1) := by decide +kernel
theorem dX12_person_10 : decode cX12_person 10 = .ok (.iload_n 2, 1) := by decide +kernel
theorem dX12_person_11 : decode cX12_person 11 = .ok (.tableswitch 76 0 5 #[37, 37, 51, 57, 63, 70], 37) := by decide +kernel
theorem dX12_person_48 : decode cX12_person 48 = .ok (.aload_n 0, 1) := by decide +kernel
theorem dX12_person_49 : decode cX12_person 49 = .ok (.getfield 112, 3) := by decide +kernel
theorem dX12_person_52 : decode cX12_person 52 = .ok (.bipush 12, 2) := by decide +kernel
theorem dX12_person_54 : decode cX12_person 54 = .ok (.iconst 2, 1) := by decide +kernel
theorem dX12_person_55 : decode cX12_person 55 = .ok (.iload_n 1, 1) := by decide +kernel
theorem dX12_person_56 : decode cX12_person 56 = .ok (.imul, 1) := by decide +kernel
theorem dX12_person_57 : decode cX12_person 57 = .ok (.iadd, 1) := by decide +kernel
theorem dX12_person_58 : decode cX12_person 58 = .ok (.iload_n 2, 1) := by decide +kernel
theorem dX12_person_59 : decode cX12_person 59 = .ok (.iadd, 1) := by decide +kernel
theorem dX12_person_60 : decode cX12_person 60 = .ok (.iaload, 1) := by decide +kernel
theorem dX12_person_61 : decode cX12_person 61 = .ok (.ireturn, 1) := by decide +kernel
theorem dX12_person_62 : decode cX12_person 62 = .ok (.aload_n 0, 1) := by decide +kernel
theorem dX12_person_63 : decode cX12_person 63 = .ok (.iload_n 1, 1) := by decide +kernel
theorem dX12_person_64 : decode cX12_person 64 = .ok (.invokevirtual 474, 3) := by decide +kernel
theorem dX12_person_67 : decode cX12_person 67 = .ok (.ireturn, 1) := by decide +kernel
theorem dX12_person_68 : decode cX12_person 68 = .ok (.aload_n 0, 1) := by decide +kernel
theorem dX12_person_69 : decode cX12_person 69 = .ok (.iload_n 1, 1) := by decide +kernel
theorem dX12_person_70 : decode cX12_person 70 = .ok (.invokevirtual 465, 3) := by decide +kernel
theorem dX12_person_73 : decode cX12_person 73 = .ok (.ireturn, 1) := by decide +kernel
theorem dX12_person_74 : decode cX12_person 74 = .ok (.aload_n 0, 1) := by decide +kernel
theorem dX12_person_75 : decode cX12_person 75 = .ok (.getfield 142, 3) := by decide +kernel
theorem dX12_person_78 : decode cX12_person 78 = .ok (.iload_n 1, 1) := by decide +kernel
theorem dX12_person_79 : decode cX12_person 79 = .ok (.iaload, 1) := by decide +kernel
theorem dX12_person_80 : decode cX12_person 80 = .ok (.ireturn, 1) := by decide +kernel
theorem dX12_person_81 : decode cX12_person 81 = .ok (.aload_n 0, 1) := by decide +kernel
theorem dX12_person_82 : decode cX12_person 82 = .ok (.iload_n 1, 1) := by decide +kernel
theorem dX12_person_83 : decode cX12_person 83 = .ok (.invokevirtual 507, 3) := by decide +kernel
theorem dX12_person_86 : decode cX12_person 86 = .ok (.ireturn, 1) := by decide +kernel
theorem dX12_person_87 : decode cX12_person 87 = .ok (.iconst (-1), 1) := by decide +kernel
theorem dX12_person_88 : decode cX12_person 88 = .ok (.ireturn, 1) := by decide +kernel
theorem dX12_see_0 : decode cX12_see 0 = .ok (.aload_n 0, 1) := by decide +kernel
theorem dX12_see_1 : decode cX12_see 1 = .ok (.getfield 254, 3) := by decide +kernel
theorem dX12_see_4 : decode cX12_see 4 = .ok (.istore_n 1, 1) := by decide +kernel
theorem dX12_see_5 : decode cX12_see 5 = .ok (.aload_n 0, 1) := by decide +kernel
theorem dX12_see_6 : decode cX12_see 6 = .ok (.iconst 0, 1) := by decide +kernel
theorem dX12_see_7 : decode cX12_see 7 = .ok (.putfield 254, 3) := by decide +kernel
theorem dX12_see_10 : decode cX12_see 10 = .ok (.iload_n 1, 1) := by decide +kernel
theorem dX12_see_11 : decode cX12_see 11 = .ok (.ifCond .le 21, 3) := by decide +kernel
theorem dX12_see_14 : decode cX12_see 14 = .ok (.iload_n 1, 1) := by decide +kernel
theorem dX12_see_15 : decode cX12_see 15 = .ok (.iconst 3, 1) := by decide +kernel
theorem dX12_see_16 : decode cX12_see 16 = .ok (.irem, 1) := by decide +kernel
theorem dX12_see_17 : decode cX12_see 17 = .ok (.ifCond .ne 15, 3) := by decide +kernel
theorem dX12_see_20 : decode cX12_see 20 = .ok (.iload_n 1, 1) := by decide +kernel
theorem dX12_see_21 : decode cX12_see 21 = .ok (.iconst 3, 1) := by decide +kernel
theorem dX12_see_22 : decode cX12_see 22 = .ok (.idiv, 1) := by decide +kernel
theorem dX12_see_23 : decode cX12_see 23 = .ok (.bipush 16, 2) := by decide +kernel
theorem dX12_see_25 : decode cX12_see 25 = .ok (.if_icmp .gt 7, 3) := by decide +kernel
theorem dX12_see_28 : decode cX12_see 28 = .ok (.iconst 1, 1) := by decide +kernel
theorem dX12_see_29 : decode cX12_see 29 = .ok (.goto 4, 3) := by decide +kernel
theorem dX12_see_32 : decode cX12_see 32 = .ok (.iconst 0, 1) := by decide +kernel
theorem dX12_see_33 : decode cX12_see 33 = .ok (.istore_n 2, 1) := by decide +kernel
theorem dX12_see_34 : decode cX12_see 34 = .ok (.iconst 0, 1) := by decide +kernel
theorem dX12_see_35 : decode cX12_see 35 = .ok (.istore_n 3, 1) := by decide +kernel
theorem dX12_see_36 : decode cX12_see 36 = .ok (.iload_n 3, 1) := by decide +kernel
theorem dX12_see_37 : decode cX12_see 37 = .ok (.iload_n 1, 1) := by decide +kernel
theorem dX12_see_38 : decode cX12_see 38 = .ok (.if_icmp .ge 57, 3) := by decide +kernel
theorem dX12_see_41 : decode cX12_see 41 = .ok (.iload_n 2, 1) := by decide +kernel
theorem dX12_see_42 : decode cX12_see 42 = .ok (.ifCond .eq 53, 3) := by decide +kernel
theorem dX12_see_45 : decode cX12_see 45 = .ok (.aload_n 0, 1) := by decide +kernel
theorem dX12_see_46 : decode cX12_see 46 = .ok (.getfield 7, 3) := by decide +kernel
theorem dX12_see_49 : decode cX12_see 49 = .ok (.iload_n 3, 1) := by decide +kernel
theorem dX12_see_50 : decode cX12_see 50 = .ok (.iaload, 1) := by decide +kernel
theorem dX12_see_51 : decode cX12_see 51 = .ok (.bipush 30, 2) := by decide +kernel
theorem dX12_see_53 : decode cX12_see 53 = .ok (.if_icmp .gt 34, 3) := by decide +kernel
theorem dX12_see_56 : decode cX12_see 56 = .ok (.aload_n 0, 1) := by decide +kernel
theorem dX12_see_57 : decode cX12_see 57 = .ok (.aload_n 0, 1) := by decide +kernel
theorem dX12_see_58 : decode cX12_see 58 = .ok (.getfield 7, 3) := by decide +kernel
theorem dX12_see_61 : decode cX12_see 61 = .ok (.iload_n 3, 1) := by decide +kernel
theorem dX12_see_62 : decode cX12_see 62 = .ok (.iconst 1, 1) := by decide +kernel
theorem dX12_see_63 : decode cX12_see 63 = .ok (.iadd, 1) := by decide +kernel
theorem dX12_see_64 : decode cX12_see 64 = .ok (.iaload, 1) := by decide +kernel
theorem dX12_see_65 : decode cX12_see 65 = .ok (.invokevirtual 502, 3) := by decide +kernel
theorem dX12_see_68 : decode cX12_see 68 = .ok (.ifCond .eq 19, 3) := by decide +kernel
theorem dX12_see_71 : decode cX12_see 71 = .ok (.aload_n 0, 1) := by decide +kernel
theorem dX12_see_72 : decode cX12_see 72 = .ok (.getfield 7, 3) := by decide +kernel
theorem dX12_see_75 : decode cX12_see 75 = .ok (.iload_n 3, 1) := by decide +kernel
theorem dX12_see_76 : decode cX12_see 76 = .ok (.iconst 2, 1) := by decide +kernel
theorem dX12_see_77 : decode cX12_see 77 = .ok (.iadd, 1) := by decide +kernel
theorem dX12_see_78 : decode cX12_see 78 = .ok (.iaload, 1) := by decide +kernel
theorem dX12_see_79 : decode cX12_see 79 = .ok (.iconst 1, 1) := by decide +kernel
theorem dX12_see_80 : decode cX12_see 80 = .ok (.if_icmp .gt 7, 3) := by decide +kernel
theorem dX12_see_83 : decode cX12_see 83 = .ok (.iconst 1, 1) := by decide +kernel
theorem dX12_see_84 : decode cX12_see 84 = .ok (.goto 4, 3) := by decide +kernel
theorem dX12_see_87 : decode cX12_see 87 = .ok (.iconst 0, 1) := by decide +kernel
theorem dX12_see_88 : decode cX12_see 88 = .ok (.istore_n 2, 1) := by decide +kernel
theorem dX12_see_89 : decode cX12_see 89 = .ok (.iinc 3 3, 3) := by decide +kernel
theorem dX12_see_92 : decode cX12_see 92 = .ok (.goto (-56), 3) := by decide +kernel
theorem dX12_see_95 : decode cX12_see 95 = .ok (.iload_n 2, 1) := by decide +kernel
theorem dX12_see_96 : decode cX12_see 96 = .ok (.ifCond .ne 9, 3) := by decide +kernel
theorem dX12_see_99 : decode cX12_see 99 = .ok (.aload_n 0, 1) := by decide +kernel
theorem dX12_see_100 : decode cX12_see 100 = .ok (.iconst 1, 1) := by decide +kernel
theorem dX12_see_101 : decode cX12_see 101 = .ok (.invokevirtual 376, 3) := by decide +kernel
theorem dX12_see_104 : decode cX12_see 104 = .ok (.ireturn, 1) := by decide +kernel
theorem dX12_see_105 : decode cX12_see 105 = .ok (.iconst 0, 1) := by decide +kernel
theorem dX12_see_106 : decode cX12_see 106 = .ok (.istore_n 3, 1) := by decide +kernel
theorem dX12_see_107 : decode cX12_see 107 = .ok (.iload_n 3, 1) := by decide +kernel
theorem dX12_see_108 : decode cX12_see 108 = .ok (.iload_n 1, 1) := by decide +kernel
theorem dX12_see_109 : decode cX12_see 109 = .ok (.if_icmp .ge 21, 3) := by decide +kernel
theorem dX12_see_112 : decode cX12_see 112 = .ok (.aload_n 0, 1) := by decide +kernel
theorem dX12_see_113 : decode cX12_see 113 = .ok (.getfield 157, 3) := by decide +kernel
theorem dX12_see_116 : decode cX12_see 116 = .ok (.iload_n 3, 1) := by decide +kernel
theorem dX12_see_117 : decode cX12_see 117 = .ok (.aload_n 0, 1) := by decide +kernel
theorem dX12_see_118 : decode cX12_see 118 = .ok (.getfield 7, 3) := by decide +kernel
theorem dX12_see_121 : decode cX12_see 121 = .ok (.iload_n 3, 1) := by decide +kernel
theorem dX12_see_122 : decode cX12_see 122 = .ok (.iaload, 1) := by decide +kernel
theorem dX12_see_123 : decode cX12_see 123 = .ok (.iastore, 1) := by decide +kernel
theorem dX12_see_124 : decode cX12_see 124 = .ok (.iinc 3 1, 3) := by decide +kernel
theorem dX12_see_127 : decode cX12_see 127 = .ok (.goto (-20), 3) := by decide +kernel
theorem dX12_see_130 : decode cX12_see 130 = .ok (.aload_n 0, 1) := by decide +kernel
theorem dX12_see_131 : decode cX12_see 131 = .ok (.iload_n 1, 1) := by decide +kernel
theorem dX12_see_132 : decode cX12_see 132 = .ok (.iconst 3, 1) := by decide +kernel
theorem dX12_see_133 : decode cX12_see 133 = .ok (.idiv, 1) := by decide +kernel
theorem dX12_see_134 : decode cX12_see 134 = .ok (.putfield 393, 3) := by decide +kernel
theorem dX12_see_137 : decode cX12_see 137 = .ok (.aload_n 0, 1) := by decide +kernel
theorem dX12_see_138 : decode cX12_see 138 = .ok (.getfield 393, 3) := by decide +kernel
theorem dX12_see_141 : decode cX12_see 141 = .ok (.ireturn, 1) := by decide +kernel
theorem dX12_seed_0 : decode cX12_seed 0 = .ok (.iload_n 1, 1) := by decide +kernel
theorem dX12_seed_1 : decode cX12_seed 1 = .ok (.ifCond .ge 9, 3) := by decide +kernel
theorem dX12_seed_4 : decode cX12_seed 4 = .ok (.aload_n 0, 1) := by decide +kernel
theorem dX12_seed_5 : decode cX12_seed 5 = .ok (.iconst 5, 1) := by decide +kernel
theorem dX12_seed_6 : decode cX12_seed 6 = .ok (.invokevirtual 599, 3) := by decide +kernel
theorem dX12_seed_9 : decode cX12_seed 9 = .ok (.ireturn, 1) := by decide +kernel
theorem dX12_seed_10 : decode cX12_seed 10 = .ok (.aload_n 0, 1) := by decide +kernel
theorem dX12_seed_11 : decode cX12_seed 11 = .ok (.iload_n 1, 1) := by decide +kernel
theorem dX12_seed_12 : decode cX12_seed 12 = .ok (.i2l, 1) := by decide +kernel
theorem dX12_seed_13 : decode cX12_seed 13 = .ok (.putfield 166, 3) := by decide +kernel
theorem dX12_seed_16 : decode cX12_seed 16 = .ok (.iconst 1, 1) := by decide +kernel
theorem dX12_seed_17 : decode cX12_seed 17 = .ok (.ireturn, 1) := by decide +kernel
theorem dX12_serve_0 : decode cX12_serve 0 = .ok (.aload_n 0, 1) := by decide +kernel
theorem dX12_serve_1 : decode cX12_serve 1 = .ok (.iload_n 1, 1) := by decide +kernel
theorem dX12_serve_2 : decode cX12_serve 2 = .ok (.invokevirtual 502, 3) := by decide +kernel
theorem dX12_serve_5 : decode cX12_serve 5 = .ok (.ifCond .eq 20, 3) := by decide +kernel
theorem dX12_serve_8 : decode cX12_serve 8 = .ok (.aload_n 0, 1) := by decide +kernel
theorem dX12_serve_9 : decode cX12_serve 9 = .ok (.iload_n 1, 1) := by decide +kernel
theorem dX12_serve_10 : decode cX12_serve 10 = .ok (.iload_n 2, 1) := by decide +kernel
theorem dX12_serve_11 : decode cX12_serve 11 = .ok (.invokevirtual 596, 3) := by decide +kernel
theorem dX12_serve_14 : decode cX12_serve 14 = .ok (.ifCond .eq 11, 3) := by decide +kernel
theorem dX12_serve_17 : decode cX12_serve 17 = .ok (.aload_n 0, 1) := by decide +kernel
theorem dX12_serve_18 : decode cX12_serve 18 = .ok (.iload_n 2, 1) := by decide +kernel
theorem dX12_serve_19 : decode cX12_serve 19 = .ok (.invokevirtual 450, 3) := by decide +kernel
theorem dX12_serve_22 : decode cX12_serve 22 = .ok (.ifCond .ne 9, 3) := by decide +kernel
theorem dX12_serve_25 : decode cX12_serve 25 = .ok (.aload_n 0, 1) := by decide +kernel
theorem dX12_serve_26 : decode cX12_serve 26 = .ok (.iconst 2, 1) := by decide +kernel
theorem dX12_serve_27 : decode cX12_serve 27 = .ok (.invokevirtual 599, 3) := by decide +kernel
theorem dX12_serve_30 : decode cX12_serve 30 = .ok (.ireturn, 1) := by decide +kernel
theorem dX12_serve_31 : decode cX12_serve 31 = .ok (.aload_n 0, 1) := by decide +kernel
theorem dX12_serve_32 : decode cX12_serve 32 = .ok (.invokevirtual 593, 3) := by decide +kernel
theorem dX12_serve_35 : decode cX12_serve 35 = .ok (.aload_n 0, 1) := by decide +kernel
theorem dX12_serve_36 : decode cX12_serve 36 = .ok (.iload_n 1, 1) := by decide +kernel
theorem dX12_serve_37 : decode cX12_serve 37 = .ok (.iload_n 2, 1) := by decide +kernel
theorem dX12_serve_38 : decode cX12_serve 38 = .ok (.invokevirtual 477, 3) := by decide +kernel
theorem dX12_serve_41 : decode cX12_serve 41 = .ok (.iconst 1, 1) := by decide +kernel
theorem dX12_serve_42 : decode cX12_serve 42 = .ok (.ireturn, 1) := by decide +kernel
theorem dX12_served_0 : decode cX12_served 0 = .ok (.aload_n 0, 1) := by decide +kernel
theorem dX12_served_1 : decode cX12_served 1 = .ok (.iload_n 1, 1) := by decide +kernel
theorem dX12_served_2 : decode cX12_served 2 = .ok (.invokevirtual 502, 3) := by decide +kernel
theorem dX12_served_5 : decode cX12_served 5 = .ok (.ifCond .ne 5, 3) := by decide +kernel
theorem dX12_served_8 : decode cX12_served 8 = .ok (.iconst (-1), 1) := by decide +kernel
theorem dX12_served_9 : decode cX12_served 9 = .ok (.ireturn, 1) := by decide +kernel
theorem dX12_served_10 : decode cX12_served 10 = .ok (.iconst (-1), 1) := by decide +kernel
theorem dX12_served_11 : decode cX12_served 11 = .ok (.istore_n 2, 1) := by decide +kernel
theorem dX12_served_12 : decode cX12_served 12 = .ok (.aload_n 0, 1) := by decide +kernel
theorem dX12_served_13 : decode cX12_served 13 = .ok (.invokevirtual 549, 3) := by decide +kernel
theorem dX12_served_16 : decode cX12_served 16 = .ok (.iconst 0, 1) := by decide +kernel
theorem dX12_served_17 : decode cX12_served 17 = .ok (.istore_n 3, 1) := by decide +kernel
theorem dX12_served_18 : decode cX12_served 18 = .ok (.iload_n 3, 1) := by decide +kernel
theorem dX12_served_19 : decode cX12_served 19 = .ok (.bipush 40, 2) := by decide +kernel
theorem dX12_served_21 : decode cX12_served 21 = .ok (.if_icmp .ge 44, 3) := by decide +kernel
theorem dX12_served_24 : decode cX12_served 24 = .ok (.aload_n 0, 1) := by decide +kernel
theorem dX12_served_25 : decode cX12_served 25 = .ok (.getfield 127, 3) := by decide +kernel
theorem dX12_served_28 : decode cX12_served 28 = .ok (.iconst 0, 1) := by decide +kernel
theorem dX12_served_29 : decode cX12_served 29 = .ok (.iaload, 1) := by decide +kernel
theorem dX12_served_30 : decode cX12_served 30 = .ok (.sipush 999, 3) := by decide +kernel
theorem dX12_served_33 : decode cX12_served 33 = .ok (.if_icmp .ge 32, 3) := by decide +kernel
theorem dX12_served_36 : decode cX12_served 36 = .ok (.iload_n 2, 1) := by decide +kernel
theorem dX12_served_37 : decode cX12_served 37 = .ok (.iconst (-1), 1) := by decide +kernel
theorem dX12_served_38 : decode cX12_served 38 = .ok (.if_icmp .ne 27, 3) := by decide +kernel
theorem dX12_served_41 : decode cX12_served 41 = .ok (.aload_n 0, 1) := by decide +kernel
theorem dX12_served_42 : decode cX12_served 42 = .ok (.invokevirtual 489, 3) := by decide +kernel
theorem dX12_served_45 : decode cX12_served 45 = .ok (.aload_n 0, 1) := by decide +kernel
theorem dX12_served_46 : decode cX12_served 46 = .ok (.getfield 483, 3) := by decide +kernel
theorem dX12_served_49 : decode cX12_served 49 = .ok (.iload_n 1, 1) := by decide +kernel
theorem dX12_served_50 : decode cX12_served 50 = .ok (.ishr, 1) := by decide +kernel
theorem dX12_served_51 : decode cX12_served 51 = .ok (.iconst 1, 1) := by decide +kernel
theorem dX12_served_52 : decode cX12_served 52 = .ok (.iand, 1) := by decide +kernel
theorem dX12_served_53 : decode cX12_served 53 = .ok (.iconst 1, 1) := by decide +kernel
theorem dX12_served_54 : decode cX12_served 54 = .ok (.if_icmp .ne 5, 3) := by decide +kernel
theorem dX12_served_57 : decode cX12_served 57 = .ok (.iload_n 3, 1) := by decide +kernel
theorem dX12_served_58 : decode cX12_served 58 = .ok (.istore_n 2, 1) := by decide +kernel
theorem dX12_served_59 : decode cX12_served 59 = .ok (.iinc 3 1, 3) := by decide +kernel
theorem dX12_served_62 : decode cX12_served 62 = .ok (.goto (-44), 3) := by decide +kernel
theorem dX12_served_65 : decode cX12_served 65 = .ok (.aload_n 0, 1) := by decide +kernel
theorem dX12_served_66 : decode cX12_served 66 = .ok (.invokevirtual 555, 3) := by decide +kernel
theorem dX12_served_69 : decode cX12_served 69 = .ok (.iload_n 2, 1) := by decide +kernel
theorem dX12_served_70 : decode cX12_served 70 = .ok (.ireturn, 1) := by decide +kernel
theorem dX12_shortest_0 : decode cX12_shortest 0 = .ok (.aload_n 0, 1) := by decide +kernel
theorem dX12_shortest_1 : decode cX12_shortest 1 = .ok (.iload_n 1, 1) := by decide +kernel
theorem dX12_shortest_2 : decode cX12_shortest 2 = .ok (.iload_n 2, 1) := by decide +kernel
theorem dX12_shortest_3 : decode cX12_shortest 3 = .ok (.invokevirtual 518, 3) := by decide +kernel
theorem dX12_shortest_6 : decode cX12_shortest 6 = .ok (.ifCond .ne 5, 3) := by decide +kernel
theorem dX12_shortest_9 : decode cX12_shortest 9 = .ok (.iconst (-1), 1) := by decide +kernel
theorem dX12_shortest_10 : decode cX12_shortest 10 = .ok (.ireturn, 1) := by decide +kernel
theorem dX12_shortest_11 : decode cX12_shortest 11 = .ok (.aload_n 0, 1) := by decide +kernel
theorem dX12_shortest_12 : decode cX12_shortest 12 = .ok (.iload_n 1, 1) := by decide +kernel
theorem dX12_shortest_13 : decode cX12_shortest 13 = .ok (.iload_n 2, 1) := by decide +kernel
theorem dX12_shortest_14 : decode cX12_shortest 14 = .ok (.invokestatic 413, 3) := by decide +kernel
theorem dX12_shortest_17 : decode cX12_shortest 17 = .ok (.invokevirtual 417, 3) := by decide +kernel
theorem dX12_shortest_20 : decode cX12_shortest 20 = .ok (.aload_n 0, 1) := by decide +kernel
theorem dX12_shortest_21 : decode cX12_shortest 21 = .ok (.invokevirtual 524, 3) := by decide +kernel
theorem dX12_shortest_24 : decode cX12_shortest 24 = .ok (.ireturn, 1) := by decide +kernel
theorem dX12_status_0 : decode cX12_status 0 = .ok (.iload_n 1, 1) := by decide +kernel
theorem dX12_status_1 : decode cX12_status 1 = .ok (.i2l, 1) := by decide +kernel
theorem dX12_status_2 : decode cX12_status 2 = .ok (.lconst 0, 1) := by decide +kernel
theorem dX12_status_3 : decode cX12_status 3 = .ok (.ldc2_w 505, 3) := by decide +kernel
theorem dX12_status_6 : decode cX12_status 6 = .ok (.invokestatic 300, 3) := by decide +kernel
theorem dX12_status_9 : decode cX12_status 9 = .ok (.ifCond .eq 12, 3) := by decide +kernel
theorem dX12_status_12 : decode cX12_status 12 = .ok (.aload_n 0, 1) := by decide +kernel
theorem dX12_status_13 : decode cX12_status 13 = .ok (.getfield 17, 3) := by decide +kernel
theorem dX12_status_16 : decode cX12_status 16 = .ok (.iload_n 1, 1) := by decide +kernel
theorem dX12_status_17 : decode cX12_status 17 = .ok (.iaload, 1) := by decide +kernel
theorem dX12_status_18 : decode cX12_status 18 = .ok (.goto 4, 3) := by decide +kernel
theorem dX12_status_21 : decode cX12_status 21 = .ok (.iconst (-1), 1) := by decide +kernel
theorem dX12_status_22 : decode cX12_status 22 = .ok (.ireturn, 1) := by decide +kernel
theorem dX12_stock_0 : decode cX12_stock 0 = .ok (.aload_n 0, 1) := by decide +kernel
theorem dX12_stock_1 : decode cX12_stock 1 = .ok (.iload_n 1, 1) := by decide +kernel
theorem dX12_stock_2 : decode cX12_stock 2 = .ok (.i2l, 1) := by decide +kernel
theorem dX12_stock_3 : decode cX12_stock 3 = .ok (.invokevirtual 510, 3) := by decide +kernel
theorem dX12_stock_6 : decode cX12_stock 6 = .ok (.ifCond .eq 12, 3) := by decide +kernel
theorem dX12_stock_9 : decode cX12_stock 9 = .ok (.aload_n 0, 1) := by decide +kernel
theorem dX12_stock_10 : decode cX12_stock 10 = .ok (.getfield 127, 3) := by decide +kernel
theorem dX12_stock_13 : decode cX12_stock 13 = .ok (.iload_n 1, 1) := by decide +kernel
theorem dX12_stock_14 : decode cX12_stock 14 = .ok (.iaload, 1) := by decide +kernel
theorem dX12_stock_15 : decode cX12_stock 15 = .ok (.goto 4, 3) := by decide +kernel
theorem dX12_stock_18 : decode cX12_stock 18 = .ok (.iconst (-1), 1) := by decide +kernel
theorem dX12_stock_19 : decode cX12_stock 19 = .ok (.ireturn, 1) := by decide +kernel
theorem dX12_stockSet_0 : decode cX12_stockSet 0 = .ok (.iconst 0, 1) := by decide +kernel
theorem dX12_stockSet_1 : decode cX12_stockSet 1 = .ok (.istore_n 2, 1) := by decide +kernel
theorem dX12_stockSet_2 : decode cX12_stockSet 2 = .ok (.aload_n 0, 1) := by decide +kernel
theorem dX12_stockSet_3 : decode cX12_stockSet 3 = .ok (.invokevirtual 549, 3) := by decide +kernel
theorem dX12_stockSet_6 : decode cX12_stockSet 6 = .ok (.iconst 0, 1) := by decide +kernel
theorem dX12_stockSet_7 : decode cX12_stockSet 7 = .ok (.istore_n 3, 1) := by decide +kernel
theorem dX12_stockSet_8 : decode cX12_stockSet 8 = .ok (.iload_n 3, 1) := by decide +kernel
theorem dX12_stockSet_9 : decode cX12_stockSet 9 = .ok (.bipush 30, 2) := by decide +kernel
theorem dX12_stockSet_11 : decode cX12_stockSet 11 = .ok (.if_icmp .gt 91, 3) := by decide +kernel
theorem dX12_stockSet_14 : decode cX12_stockSet 14 = .ok (.aload_n 0, 1) := by decide +kernel
theorem dX12_stockSet_15 : decode cX12_stockSet 15 = .ok (.getfield 127, 3) := by decide +kernel
theorem dX12_stockSet_18 : decode cX12_stockSet 18 = .ok (.iload_n 1, 1) := by decide +kernel
theorem dX12_stockSet_19 : decode cX12_stockSet 19 = .ok (.iload_n 3, 1) := by decide +kernel
theorem dX12_stockSet_20 : decode cX12_stockSet 20 = .ok (.iastore, 1) := by decide +kernel
theorem dX12_stockSet_21 : decode cX12_stockSet 21 = .ok (.iconst 1, 1) := by decide +kernel
theorem dX12_stockSet_22 : decode cX12_stockSet 22 = .ok (.istore 4, 2) := by decide +kernel
theorem dX12_stockSet_24 : decode cX12_stockSet 24 = .ok (.iconst 0, 1) := by decide +kernel
theorem dX12_stockSet_25 : decode cX12_stockSet 25 = .ok (.istore 5, 2) := by decide +kernel
theorem dX12_stockSet_27 : decode cX12_stockSet 27 = .ok (.iload 5, 2) := by decide +kernel
theorem dX12_stockSet_29 : decode cX12_stockSet 29 = .ok (.bipush 30, 2) := by decide +kernel
theorem dX12_stockSet_31 : decode cX12_stockSet 31 = .ok (.if_icmp .gt 50, 3) := by decide +kernel
theorem dX12_stockSet_34 : decode cX12_stockSet 34 = .ok (.aload_n 0, 1) := by decide +kernel
theorem dX12_stockSet_35 : decode cX12_stockSet 35 = .ok (.invokevirtual 489, 3) := by decide +kernel
theorem dX12_stockSet_38 : decode cX12_stockSet 38 = .ok (.iload 4, 2) := by decide +kernel
theorem dX12_stockSet_40 : decode cX12_stockSet 40 = .ok (.ifCond .eq 16, 3) := by decide +kernel
theorem dX12_stockSet_43 : decode cX12_stockSet 43 = .ok (.aload_n 0, 1) := by decide +kernel
theorem dX12_stockSet_44 : decode cX12_stockSet 44 = .ok (.iload 5, 2) := by decide +kernel
theorem dX12_stockSet_46 : decode cX12_stockSet 46 = .ok (.invokevirtual 581, 3) := by decide +kernel
theorem dX12_stockSet_49 : decode cX12_stockSet 49 = .ok (.ifCond .eq 7, 3) := by decide +kernel
theorem dX12_stockSet_52 : decode cX12_stockSet 52 = .ok (.iconst 1, 1) := by decide +kernel
theorem dX12_stockSet_53 : decode cX12_stockSet 53 = .ok (.goto 4, 3) := by decide +kernel
theorem dX12_stockSet_56 : decode cX12_stockSet 56 = .ok (.iconst 0, 1) := by decide +kernel
theorem dX12_stockSet_57 : decode cX12_stockSet 57 = .ok (.istore 4, 2) := by decide +kernel
theorem dX12_stockSet_59 : decode cX12_stockSet 59 = .ok (.aload_n 0, 1) := by decide +kernel
theorem dX12_stockSet_60 : decode cX12_stockSet 60 = .ok (.getfield 160, 3) := by decide +kernel
theorem dX12_stockSet_63 : decode cX12_stockSet 63 = .ok (.bipush 31, 2) := by decide +kernel
theorem dX12_stockSet_65 : decode cX12_stockSet 65 = .ok (.iload_n 3, 1) := by decide +kernel
theorem dX12_stockSet_66 : decode cX12_stockSet 66 = .ok (.imul, 1) := by decide +kernel
theorem dX12_stockSet_67 : decode cX12_stockSet 67 = .ok (.iload 5, 2) := by decide +kernel
theorem dX12_stockSet_69 : decode cX12_stockSet 69 = .ok (.iadd, 1) := by decide +kernel
theorem dX12_stockSet_70 : decode cX12_stockSet 70 = .ok (.aload_n 0, 1) := by decide +kernel
theorem dX12_stockSet_71 : decode cX12_stockSet 71 = .ok (.getfield 483, 3) := by decide +kernel
theorem dX12_stockSet_74 : decode cX12_stockSet 74 = .ok (.iastore, 1) := by decide +kernel
theorem dX12_stockSet_75 : decode cX12_stockSet 75 = .ok (.iinc 5 1, 3) := by decide +kernel
theorem dX12_stockSet_78 : decode cX12_stockSet 78 = .ok (.goto (-51), 3) := by decide +kernel
theorem dX12_stockSet_81 : decode cX12_stockSet 81 = .ok (.aload_n 0, 1) := by decide +kernel
theorem dX12_stockSet_82 : decode cX12_stockSet 82 = .ok (.invokevirtual 492, 3) := by decide +kernel
theorem dX12_stockSet_85 : decode cX12_stockSet 85 = .ok (.iload 4, 2) := by decide +kernel
theorem dX12_stockSet_87 : decode cX12_stockSet 87 = .ok (.ifCond .eq 9, 3) := by decide +kernel
theorem dX12_stockSet_90 : decode cX12_stockSet 90 = .ok (.iload_n 2, 1) := by decide +kernel
theorem dX12_stockSet_91 : decode cX12_stockSet 91 = .ok (.iconst 1, 1) := by decide +kernel
theorem dX12_stockSet_92 : decode cX12_stockSet 92 = .ok (.iload_n 3, 1) := by decide +kernel
theorem dX12_stockSet_93 : decode cX12_stockSet 93 = .ok (.ishl, 1) := by decide +kernel
theorem dX12_stockSet_94 : decode cX12_stockSet 94 = .ok (.ior, 1) := by decide +kernel
theorem dX12_stockSet_95 : decode cX12_stockSet 95 = .ok (.istore_n 2, 1) := by decide +kernel
theorem dX12_stockSet_96 : decode cX12_stockSet 96 = .ok (.iinc 3 1, 3) := by decide +kernel
theorem dX12_stockSet_99 : decode cX12_stockSet 99 = .ok (.goto (-91), 3) := by decide +kernel
theorem dX12_stockSet_102 : decode cX12_stockSet 102 = .ok (.aload_n 0, 1) := by decide +kernel
theorem dX12_stockSet_103 : decode cX12_stockSet 103 = .ok (.invokevirtual 555, 3) := by decide +kernel
theorem dX12_stockSet_106 : decode cX12_stockSet 106 = .ok (.iload_n 2, 1) := by decide +kernel
theorem dX12_stockSet_107 : decode cX12_stockSet 107 = .ok (.ireturn, 1) := by decide +kernel
theorem dX12_stocks_0 : decode cX12_stocks 0 = .ok (.aload_n 0, 1) := by decide +kernel
theorem dX12_stocks_1 : decode cX12_stocks 1 = .ok (.iload_n 1, 1) := by decide +kernel
theorem dX12_stocks_2 : decode cX12_stocks 2 = .ok (.i2l, 1) := by decide +kernel
theorem dX12_stocks_3 : decode cX12_stocks 3 = .ok (.invokevirtual 510, 3) := by decide +kernel
theorem dX12_stocks_6 : decode cX12_stocks 6 = .ok (.ifCond .eq 11, 3) := by decide +kernel
theorem dX12_stocks_9 : decode cX12_stocks 9 = .ok (.aload_n 0, 1) := by decide +kernel
theorem dX12_stocks_10 : decode cX12_stocks 10 = .ok (.iload_n 1, 1) := by decide +kernel
theorem dX12_stocks_11 : decode cX12_stocks 11 = .ok (.invokevirtual 584, 3) := by decide +kernel
theorem dX12_stocks_14 : decode cX12_stocks 14 = .ok (.goto 4, 3) := by decide +kernel
theorem dX12_stocks_17 : decode cX12_stocks 17 = .ok (.iconst (-1), 1) := by decide +kernel
theorem dX12_stocks_18 : decode cX12_stocks 18 = .ok (.ireturn, 1) := by decide +kernel
theorem dX12_tells_0 : decode cX12_tells 0 = .ok (.aload_n 0, 1) := by decide +kernel
theorem dX12_tells_1 : decode cX12_tells 1 = .ok (.iload_n 1, 1) := by decide +kernel
theorem dX12_tells_2 : decode cX12_tells 2 = .ok (.i2l, 1) := by decide +kernel
theorem dX12_tells_3 : decode cX12_tells 3 = .ok (.invokevirtual 510, 3) := by decide +kernel
theorem dX12_tells_6 : decode cX12_tells 6 = .ok (.ifCond .eq 15, 3) := by decide +kernel
theorem dX12_tells_9 : decode cX12_tells 9 = .ok (.iload_n 2, 1) := by decide +kernel
theorem dX12_tells_10 : decode cX12_tells 10 = .ok (.i2l, 1) := by decide +kernel
theorem dX12_tells_11 : decode cX12_tells 11 = .ok (.lconst 0, 1) := by decide +kernel
theorem dX12_tells_12 : decode cX12_tells 12 = .ok (.ldc2_w 514, 3) := by decide +kernel
theorem dX12_tells_15 : decode cX12_tells 15 = .ok (.invokestatic 300, 3) := by decide +kernel
theorem dX12_tells_18 : decode cX12_tells 18 = .ok (.ifCond .ne 5, 3) := by decide +kernel
theorem dX12_tells_21 : decode cX12_tells 21 = .ok (.iconst (-1), 1) := by decide +kernel
theorem dX12_tells_22 : decode cX12_tells 22 = .ok (.ireturn, 1) := by decide +kernel
theorem dX12_tells_23 : decode cX12_tells 23 = .ok (.aload_n 0, 1) := by decide +kernel
theorem dX12_tells_24 : decode cX12_tells 24 = .ok (.iload_n 1, 1) := by decide +kernel
theorem dX12_tells_25 : decode cX12_tells 25 = .ok (.invokevirtual 584, 3) := by decide +kernel
theorem dX12_tells_28 : decode cX12_tells 28 = .ok (.istore_n 3, 1) := by decide +kernel
theorem dX12_tells_29 : decode cX12_tells 29 = .ok (.iconst (-1), 1) := by decide +kernel
theorem dX12_tells_30 : decode cX12_tells 30 = .ok (.istore 4, 2) := by decide +kernel
theorem dX12_tells_32 : decode cX12_tells 32 = .ok (.iconst (-1), 1) := by decide +kernel
theorem dX12_tells_33 : decode cX12_tells 33 = .ok (.istore 5, 2) := by decide +kernel
theorem dX12_tells_35 : decode cX12_tells 35 = .ok (.iconst 0, 1) := by decide +kernel
theorem dX12_tells_36 : decode cX12_tells 36 = .ok (.istore 6, 2) := by decide +kernel
theorem dX12_tells_38 : decode cX12_tells 38 = .ok (.iconst 0, 1) := by decide +kernel
theorem dX12_tells_39 : decode cX12_tells 39 = .ok (.istore 7, 2) := by decide +kernel
theorem dX12_tells_41 : decode cX12_tells 41 = .ok (.iload_n 3, 1) := by decide +kernel
theorem dX12_tells_42 : decode cX12_tells 42 = .ok (.ifCond .eq 88, 3) := by decide +kernel
theorem dX12_tells_45 : decode cX12_tells 45 = .ok (.iload 7, 2) := by decide +kernel
theorem dX12_tells_47 : decode cX12_tells 47 = .ok (.bipush 30, 2) := by decide +kernel
theorem dX12_tells_49 : decode cX12_tells 49 = .ok (.if_icmp .gt 81, 3) := by decide +kernel
theorem dX12_tells_52 : decode cX12_tells 52 = .ok (.aload_n 0, 1) := by decide +kernel
theorem dX12_tells_53 : decode cX12_tells 53 = .ok (.getfield 127, 3) := by decide +kernel
theorem dX12_tells_56 : decode cX12_tells 56 = .ok (.iconst 0, 1) := by decide +kernel
theorem dX12_tells_57 : decode cX12_tells 57 = .ok (.iaload, 1) := by decide +kernel
theorem dX12_tells_58 : decode cX12_tells 58 = .ok (.iload 7, 2) := by decide +kernel
theorem dX12_tells_60 : decode cX12_tells 60 = .ok (.iadd, 1) := by decide +kernel
theorem dX12_tells_61 : decode cX12_tells 61 = .ok (.sipush 999, 3) := by decide +kernel
theorem dX12_tells_64 : decode cX12_tells 64 = .ok (.if_icmp .ge 66, 3) := by decide +kernel
theorem dX12_tells_67 : decode cX12_tells 67 = .ok (.iconst 0, 1) := by decide +kernel
theorem dX12_tells_68 : decode cX12_tells 68 = .ok (.istore 8, 2) := by decide +kernel
theorem dX12_tells_70 : decode cX12_tells 70 = .ok (.iload 8, 2) := by decide +kernel
theorem dX12_tells_72 : decode cX12_tells 72 = .ok (.aload_n 0, 1) := by decide +kernel
theorem dX12_tells_73 : decode cX12_tells 73 = .ok (.invokevirtual 399, 3) := by decide +kernel
theorem dX12_tells_76 : decode cX12_tells 76 = .ok (.if_icmp .ge 48, 3) := by decide +kernel
theorem dX12_tells_79 : decode cX12_tells 79 = .ok (.aload_n 0, 1) := by decide +kernel
theorem dX12_tells_80 : decode cX12_tells 80 = .ok (.iload_n 3, 1) := by decide +kernel
theorem dX12_tells_81 : decode cX12_tells 81 = .ok (.iload 7, 2) := by decide +kernel
theorem dX12_tells_83 : decode cX12_tells 83 = .ok (.iload 8, 2) := by decide +kernel
theorem dX12_tells_85 : decode cX12_tells 85 = .ok (.invokevirtual 587, 3) := by decide +kernel
theorem dX12_tells_88 : decode cX12_tells 88 = .ok (.istore 9, 2) := by decide +kernel
theorem dX12_tells_90 : decode cX12_tells 90 = .ok (.iload 4, 2) := by decide +kernel
theorem dX12_tells_92 : decode cX12_tells 92 = .ok (.iconst (-1), 1) := by decide +kernel
theorem dX12_tells_93 : decode cX12_tells 93 = .ok (.if_icmp .eq 13, 3) := by decide +kernel
theorem dX12_tells_96 : decode cX12_tells 96 = .ok (.iload 9, 2) := by decide +kernel
theorem dX12_tells_98 : decode cX12_tells 98 = .ok (.iload 6, 2) := by decide +kernel
theorem dX12_tells_100 : decode cX12_tells 100 = .ok (.if_icmp .lt 6, 3) := by decide +kernel
theorem dX12_tells_103 : decode cX12_tells 103 = .ok (.goto 15, 3) := by decide +kernel
theorem dX12_tells_106 : decode cX12_tells 106 = .ok (.iload 7, 2) := by decide +kernel
theorem dX12_tells_108 : decode cX12_tells 108 = .ok (.istore 4, 2) := by decide +kernel
theorem dX12_tells_110 : decode cX12_tells 110 = .ok (.iload 8, 2) := by decide +kernel
theorem dX12_tells_112 : decode cX12_tells 112 = .ok (.istore 5, 2) := by decide +kernel
theorem dX12_tells_114 : decode cX12_tells 114 = .ok (.iload 9, 2) := by decide +kernel
theorem dX12_tells_116 : decode cX12_tells 116 = .ok (.istore 6, 2) := by decide +kernel
theorem dX12_tells_118 : decode cX12_tells 118 = .ok (.iinc 8 1, 3) := by decide +kernel
theorem dX12_tells_121 : decode cX12_tells 121 = .ok (.goto (-51), 3) := by decide +kernel
theorem dX12_tells_124 : decode cX12_tells 124 = .ok (.iinc 7 1, 3) := by decide +kernel
theorem dX12_tells_127 : decode cX12_tells 127 = .ok (.goto (-86), 3) := by decide +kernel
theorem dX12_tells_130 : decode cX12_tells 130 = .ok (.iload 4, 2) := by decide +kernel
theorem dX12_tells_132 : decode cX12_tells 132 = .ok (.iconst (-1), 1) := by decide +kernel
theorem dX12_tells_133 : decode cX12_tells 133 = .ok (.if_icmp .ne 7, 3) := by decide +kernel
theorem dX12_tells_136 : decode cX12_tells 136 = .ok (.iconst (-1), 1) := by decide +kernel
theorem dX12_tells_137 : decode cX12_tells 137 = .ok (.goto 24, 3) := by decide +kernel
theorem dX12_tells_140 : decode cX12_tells 140 = .ok (.iload_n 2, 1) := by decide +kernel
theorem dX12_tells_141 : decode cX12_tells 141 = .ok (.ifCond .ne 8, 3) := by decide +kernel
theorem dX12_tells_144 : decode cX12_tells 144 = .ok (.iload 4, 2) := by decide +kernel
theorem dX12_tells_146 : decode cX12_tells 146 = .ok (.goto 15, 3) := by decide +kernel
theorem dX12_tells_149 : decode cX12_tells 149 = .ok (.iload_n 2, 1) := by decide +kernel
theorem dX12_tells_150 : decode cX12_tells 150 = .ok (.iconst 1, 1) := by decide +kernel
theorem dX12_tells_151 : decode cX12_tells 151 = .ok (.if_icmp .ne 8, 3) := by decide +kernel
theorem dX12_tells_154 : decode cX12_tells 154 = .ok (.iload 5, 2) := by decide +kernel
theorem dX12_tells_156 : decode cX12_tells 156 = .ok (.goto 5, 3) := by decide +kernel
theorem dX12_tells_159 : decode cX12_tells 159 = .ok (.iload 6, 2) := by decide +kernel
theorem dX12_tells_161 : decode cX12_tells 161 = .ok (.ireturn, 1) := by decide +kernel
theorem dX12_undo_0 : decode cX12_undo 0 = .ok (.aload_n 0, 1) := by decide +kernel
theorem dX12_undo_1 : decode cX12_undo 1 = .ok (.getfield 390, 3) := by decide +kernel
theorem dX12_undo_4 : decode cX12_undo 4 = .ok (.ifCond .ne 15, 3) := by decide +kernel
theorem dX12_undo_7 : decode cX12_undo 7 = .ok (.aload_n 0, 1) := by decide +kernel
theorem dX12_undo_8 : decode cX12_undo 8 = .ok (.getfield 17, 3) := by decide +kernel
theorem dX12_undo_11 : decode cX12_undo 11 = .ok (.iconst 4, 1) := by decide +kernel
theorem dX12_undo_12 : decode cX12_undo 12 = .ok (.dup2, 1) := by decide +kernel
theorem dX12_undo_13 : decode cX12_undo 13 = .ok (.iaload, 1) := by decide +kernel
theorem dX12_undo_14 : decode cX12_undo 14 = .ok (.iconst 1, 1) := by decide +kernel
theorem dX12_undo_15 : decode cX12_undo 15 = .ok (.iadd, 1) := by decide +kernel
theorem dX12_undo_16 : decode cX12_undo 16 = .ok (.iastore, 1) := by decide +kernel
theorem dX12_undo_17 : decode cX12_undo 17 = .ok (.iconst 0, 1) := by decide +kernel
theorem dX12_undo_18 : decode cX12_undo 18 = .ok (.ireturn, 1) := by decide +kernel
theorem dX12_undo_19 : decode cX12_undo 19 = .ok (.iconst 0, 1) := by decide +kernel
theorem dX12_undo_20 : decode cX12_undo 20 = .ok (.istore_n 1, 1) := by decide +kernel
theorem dX12_undo_21 : decode cX12_undo 21 = .ok (.iload_n 1, 1) := by decide +kernel
theorem dX12_undo_22 : decode cX12_undo 22 = .ok (.sipush 158, 3) := by decide +kernel
theorem dX12_undo_25 : decode cX12_undo 25 = .ok (.if_icmp .ge 30, 3) := by decide +kernel
theorem dX12_undo_28 : decode cX12_undo 28 = .ok (.aload_n 0, 1) := by decide +kernel
theorem dX12_undo_29 : decode cX12_undo 29 = .ok (.getfield 127, 3) := by decide +kernel
theorem dX12_undo_32 : decode cX12_undo 32 = .ok (.iload_n 1, 1) := by decide +kernel
theorem dX12_undo_33 : decode cX12_undo 33 = .ok (.aload_n 0, 1) := by decide +kernel
theorem dX12_undo_34 : decode cX12_undo 34 = .ok (.getfield 163, 3) := by decide +kernel
theorem dX12_undo_37 : decode cX12_undo 37 = .ok (.sipush 158, 3) := by decide +kernel
theorem dX12_undo_40 : decode cX12_undo 40 = .ok (.aload_n 0, 1) := by decide +kernel
theorem dX12_undo_41 : decode cX12_undo 41 = .ok (.getfield 590, 3) := by decide +kernel
theorem dX12_undo_44 : decode cX12_undo 44 = .ok (.imul, 1) := by decide +kernel
theorem dX12_undo_45 : decode cX12_undo 45 = .ok (.iload_n 1, 1) := by decide +kernel
theorem dX12_undo_46 : decode cX12_undo 46 = .ok (.iadd, 1) := by decide +kernel
theorem dX12_undo_47 : decode cX12_undo 47 = .ok (.iaload, 1) := by decide +kernel
theorem dX12_undo_48 : decode cX12_undo 48 = .ok (.iastore, 1) := by decide +kernel
theorem dX12_undo_49 : decode cX12_undo 49 = .ok (.iinc 1 1, 3) := by decide +kernel
theorem dX12_undo_52 : decode cX12_undo 52 = .ok (.goto (-31), 3) := by decide +kernel
theorem dX12_undo_55 : decode cX12_undo 55 = .ok (.aload_n 0, 1) := by decide +kernel
theorem dX12_undo_56 : decode cX12_undo 56 = .ok (.aload_n 0, 1) := by decide +kernel
theorem dX12_undo_57 : decode cX12_undo 57 = .ok (.getfield 590, 3) := by decide +kernel
theorem dX12_undo_60 : decode cX12_undo 60 = .ok (.bipush 20, 2) := by decide +kernel
theorem dX12_undo_62 : decode cX12_undo 62 = .ok (.iadd, 1) := by decide +kernel
theorem dX12_undo_63 : decode cX12_undo 63 = .ok (.iconst 1, 1) := by decide +kernel
theorem dX12_undo_64 : decode cX12_undo 64 = .ok (.isub, 1) := by decide +kernel
theorem dX12_undo_65 : decode cX12_undo 65 = .ok (.bipush 20, 2) := by decide +kernel
theorem dX12_undo_67 : decode cX12_undo 67 = .ok (.irem, 1) := by decide +kernel
theorem dX12_undo_68 : decode cX12_undo 68 = .ok (.putfield 590, 3) := by decide +kernel
theorem dX12_undo_71 : decode cX12_undo 71 = .ok (.aload_n 0, 1) := by decide +kernel
theorem dX12_undo_72 : decode cX12_undo 72 = .ok (.dup, 1) := by decide +kernel
theorem dX12_undo_73 : decode cX12_undo 73 = .ok (.getfield 390, 3) := by decide +kernel
theorem dX12_undo_76 : decode cX12_undo 76 = .ok (.iconst 1, 1) := by decide +kernel
theorem dX12_undo_77 : decode cX12_undo 77 = .ok (.isub, 1) := by decide +kernel
theorem dX12_undo_78 : decode cX12_undo 78 = .ok (.putfield 390, 3) := by decide +kernel
theorem dX12_undo_81 : decode cX12_undo 81 = .ok (.iconst 1, 1) := by decide +kernel
theorem dX12_undo_82 : decode cX12_undo 82 = .ok (.ireturn, 1) := by decide +kernel
theorem dX12_writing_0 : decode cX12_writing 0 = .ok (.aload_n 0, 1) := by decide +kernel
theorem dX12_writing_1 : decode cX12_writing 1 = .ok (.iload_n 1, 1) := by decide +kernel
theorem dX12_writing_2 : decode cX12_writing 2 = .ok (.iload_n 2, 1) := by decide +kernel
theorem dX12_writing_3 : decode cX12_writing 3 = .ok (.invokevirtual 518, 3) := by decide +kernel
theorem dX12_writing_6 : decode cX12_writing 6 = .ok (.ifCond .ne 5, 3) := by decide +kernel
theorem dX12_writing_9 : decode cX12_writing 9 = .ok (.iconst (-1), 1) := by decide +kernel
theorem dX12_writing_10 : decode cX12_writing 10 = .ok (.ireturn, 1) := by decide +kernel
theorem dX12_writing_11 : decode cX12_writing 11 = .ok (.aload_n 0, 1) := by decide +kernel
theorem dX12_writing_12 : decode cX12_writing 12 = .ok (.iload_n 1, 1) := by decide +kernel
theorem dX12_writing_13 : decode cX12_writing 13 = .ok (.iload_n 2, 1) := by decide +kernel
theorem dX12_writing_14 : decode cX12_writing 14 = .ok (.invokestatic 413, 3) := by decide +kernel
theorem dX12_writing_17 : decode cX12_writing 17 = .ok (.invokevirtual 417, 3) := by decide +kernel
theorem dX12_writing_20 : decode cX12_writing 20 = .ok (.iload_n 3, 1) := by decide +kernel
theorem dX12_writing_21 : decode cX12_writing 21 = .ok (.i2l, 1) := by decide +kernel
theorem dX12_writing_22 : decode cX12_writing 22 = .ok (.lconst 0, 1) := by decide +kernel
theorem dX12_writing_23 : decode cX12_writing 23 = .ok (.aload_n 0, 1) := by decide +kernel
theorem dX12_writing_24 : decode cX12_writing 24 = .ok (.getfield 404, 3) := by decide +kernel
theorem dX12_writing_27 : decode cX12_writing 27 = .ok (.iconst 1, 1) := by decide +kernel
theorem dX12_writing_28 : decode cX12_writing 28 = .ok (.isub, 1) := by decide +kernel
theorem dX12_writing_29 : decode cX12_writing 29 = .ok (.i2l, 1) := by decide +kernel
theorem dX12_writing_30 : decode cX12_writing 30 = .ok (.invokestatic 300, 3) := by decide +kernel
theorem dX12_writing_33 : decode cX12_writing 33 = .ok (.ifCond .eq 12, 3) := by decide +kernel
theorem dX12_writing_36 : decode cX12_writing 36 = .ok (.aload_n 0, 1) := by decide +kernel
theorem dX12_writing_37 : decode cX12_writing 37 = .ok (.getfield 130, 3) := by decide +kernel
theorem dX12_writing_40 : decode cX12_writing 40 = .ok (.iload_n 3, 1) := by decide +kernel
theorem dX12_writing_41 : decode cX12_writing 41 = .ok (.iaload, 1) := by decide +kernel
theorem dX12_writing_42 : decode cX12_writing 42 = .ok (.goto 4, 3) := by decide +kernel
theorem dX12_writing_45 : decode cX12_writing 45 = .ok (.iconst (-1), 1) := by decide +kernel
theorem dX12_writing_46 : decode cX12_writing 46 = .ok (.ireturn, 1) := by decide +kernel
theorem dX12_writings_0 : decode cX12_writings 0 = .ok (.aload_n 0, 1) := by decide +kernel
theorem dX12_writings_1 : decode cX12_writings 1 = .ok (.iload_n 1, 1) := by decide +kernel
theorem dX12_writings_2 : decode cX12_writings 2 = .ok (.iload_n 2, 1) := by decide +kernel
theorem dX12_writings_3 : decode cX12_writings 3 = .ok (.invokevirtual 518, 3) := by decide +kernel
theorem dX12_writings_6 : decode cX12_writings 6 = .ok (.ifCond .ne 5, 3) := by decide +kernel
theorem dX12_writings_9 : decode cX12_writings 9 = .ok (.iconst (-1), 1) := by decide +kernel
theorem dX12_writings_10 : decode cX12_writings 10 = .ok (.ireturn, 1) := by decide +kernel
theorem dX12_writings_11 : decode cX12_writings 11 = .ok (.aload_n 0, 1) := by decide +kernel
theorem dX12_writings_12 : decode cX12_writings 12 = .ok (.iload_n 1, 1) := by decide +kernel
theorem dX12_writings_13 : decode cX12_writings 13 = .ok (.iload_n 2, 1) := by decide +kernel
theorem dX12_writings_14 : decode cX12_writings 14 = .ok (.invokestatic 413, 3) := by decide +kernel
theorem dX12_writings_17 : decode cX12_writings 17 = .ok (.invokevirtual 417, 3) := by decide +kernel
theorem dX12_writings_20 : decode cX12_writings 20 = .ok (.aload_n 0, 1) := by decide +kernel
theorem dX12_writings_21 : decode cX12_writings 21 = .ok (.getfield 404, 3) := by decide +kernel
theorem dX12_writings_24 : decode cX12_writings 24 = .ok (.ireturn, 1) := by decide +kernel
