theorem dX10_isImage_24 : decode cX10_isImage 24 = .ok (.iload_n 3, 1) := by decide +kernel
theorem dX10_isImage_25 : decode cX10_isImage 25 = .ok (.iaload, 1) := by decide +kernel
theorem dX10_isImage_26 : decode cX10_isImage 26 = .ok (.aload_n 0, 1) := by decide +kernel
theorem dX10_isImage_27 : decode cX10_isImage 27 = .ok (.getfield 9, 3) := by decide +kernel
theorem dX10_isImage_30 : decode cX10_isImage 30 = .ok (.iload_n 3, 1) := by decide +kernel
theorem dX10_isImage_31 : decode cX10_isImage 31 = .ok (.invokestatic 19, 3) := by decide +kernel
theorem dX10_isImage_34 : decode cX10_isImage 34 = .ok (.if_icmp .ne 14, 3) := by decide +kernel
theorem dX10_isImage_37 : decode cX10_isImage 37 = .ok (.aload_n 0, 1) := by decide +kernel
theorem dX10_isImage_38 : decode cX10_isImage 38 = .ok (.iconst 0, 1) := by decide +kernel
theorem dX10_isImage_39 : decode cX10_isImage 39 = .ok (.invokevirtual 23, 3) := by decide +kernel
theorem dX10_isImage_42 : decode cX10_isImage 42 = .ok (.sipush 999, 3) := by decide +kernel
theorem dX10_isImage_45 : decode cX10_isImage 45 = .ok (.if_icmp .le 5, 3) := by decide +kernel
theorem dX10_isImage_48 : decode cX10_isImage 48 = .ok (.iconst 0, 1) := by decide +kernel
theorem dX10_isImage_49 : decode cX10_isImage 49 = .ok (.ireturn, 1) := by decide +kernel
theorem dX10_isImage_50 : decode cX10_isImage 50 = .ok (.iconst 1, 1) := by decide +kernel
theorem dX10_isImage_51 : decode cX10_isImage 51 = .ok (.istore 4, 2) := by decide +kernel
theorem dX10_isImage_53 : decode cX10_isImage 53 = .ok (.iload 4, 2) := by decide +kernel
theorem dX10_isImage_55 : decode cX10_isImage 55 = .ok (.iload_n 1, 1) := by decide +kernel
theorem dX10_isImage_56 : decode cX10_isImage 56 = .ok (.if_icmp .gt 25, 3) := by decide +kernel
theorem dX10_isImage_59 : decode cX10_isImage 59 = .ok (.aload_n 0, 1) := by decide +kernel
theorem dX10_isImage_60 : decode cX10_isImage 60 = .ok (.iconst 2, 1) := by decide +kernel
theorem dX10_isImage_61 : decode cX10_isImage 61 = .ok (.iload 4, 2) := by decide +kernel
theorem dX10_isImage_63 : decode cX10_isImage 63 = .ok (.imul, 1) := by decide +kernel
theorem dX10_isImage_64 : decode cX10_isImage 64 = .ok (.invokevirtual 23, 3) := by decide +kernel
theorem dX10_isImage_67 : decode cX10_isImage 67 = .ok (.sipush 999, 3) := by decide +kernel
theorem dX10_isImage_70 : decode cX10_isImage 70 = .ok (.if_icmp .le 5, 3) := by decide +kernel
theorem dX10_isImage_73 : decode cX10_isImage 73 = .ok (.iconst 0, 1) := by decide +kernel
theorem dX10_isImage_74 : decode cX10_isImage 74 = .ok (.ireturn, 1) := by decide +kernel
theorem dX10_isImage_75 : decode cX10_isImage 75 = .ok (.iinc 4 1, 3) := by decide +kernel
theorem dX10_isImage_78 : decode cX10_isImage 78 = .ok (.goto (-25), 3) := by decide +kernel
theorem dX10_isImage_81 : decode cX10_isImage 81 = .ok (.iconst 0, 1) := by decide +kernel
theorem dX10_isImage_82 : decode cX10_isImage 82 = .ok (.istore 4, 2) := by decide +kernel
theorem dX10_isImage_84 : decode cX10_isImage 84 = .ok (.iload 4, 2) := by decide +kernel
theorem dX10_isImage_86 : decode cX10_isImage 86 = .ok (.iload_n 2, 1) := by decide +kernel
theorem dX10_isImage_87 : decode cX10_isImage 87 = .ok (.if_icmp .ge 49, 3) := by decide +kernel
theorem dX10_isImage_90 : decode cX10_isImage 90 = .ok (.iconst 2, 1) := by decide +kernel
theorem dX10_isImage_91 : decode cX10_isImage 91 = .ok (.iconst 2, 1) := by decide +kernel
theorem dX10_isImage_92 : decode cX10_isImage 92 = .ok (.iload_n 1, 1) := by decide +kernel
theorem dX10_isImage_93 : decode cX10_isImage 93 = .ok (.imul, 1) := by decide +kernel
theorem dX10_isImage_94 : decode cX10_isImage 94 = .ok (.iadd, 1) := by decide +kernel
theorem dX10_isImage_95 : decode cX10_isImage 95 = .ok (.iconst 3, 1) := by decide +kernel
theorem dX10_isImage_96 : decode cX10_isImage 96 = .ok (.iload 4, 2) := by decide +kernel
theorem dX10_isImage_98 : decode cX10_isImage 98 = .ok (.imul, 1) := by decide +kernel
theorem dX10_isImage_99 : decode cX10_isImage 99 = .ok (.iadd, 1) := by decide +kernel
theorem dX10_isImage_100 : decode cX10_isImage 100 = .ok (.istore 5, 2) := by decide +kernel
theorem dX10_isImage_102 : decode cX10_isImage 102 = .ok (.aload_n 0, 1) := by decide +kernel
theorem dX10_isImage_103 : decode cX10_isImage 103 = .ok (.getfield 9, 3) := by decide +kernel
theorem dX10_isImage_106 : decode cX10_isImage 106 = .ok (.iload 5, 2) := by decide +kernel
theorem dX10_isImage_108 : decode cX10_isImage 108 = .ok (.iaload, 1) := by decide +kernel
theorem dX10_isImage_109 : decode cX10_isImage 109 = .ok (.bipush 99, 2) := by decide +kernel
theorem dX10_isImage_111 : decode cX10_isImage 111 = .ok (.if_icmp .gt 17, 3) := by decide +kernel
theorem dX10_isImage_114 : decode cX10_isImage 114 = .ok (.aload_n 0, 1) := by decide +kernel
theorem dX10_isImage_115 : decode cX10_isImage 115 = .ok (.iload 5, 2) := by decide +kernel
theorem dX10_isImage_117 : decode cX10_isImage 117 = .ok (.iconst 1, 1) := by decide +kernel
theorem dX10_isImage_118 : decode cX10_isImage 118 = .ok (.iadd, 1) := by decide +kernel
theorem dX10_isImage_119 : decode cX10_isImage 119 = .ok (.invokevirtual 23, 3) := by decide +kernel
theorem dX10_isImage_122 : decode cX10_isImage 122 = .ok (.sipush 999, 3) := by decide +kernel
theorem dX10_isImage_125 : decode cX10_isImage 125 = .ok (.if_icmp .le 5, 3) := by decide +kernel
theorem dX10_isImage_128 : decode cX10_isImage 128 = .ok (.iconst 0, 1) := by decide +kernel
theorem dX10_isImage_129 : decode cX10_isImage 129 = .ok (.ireturn, 1) := by decide +kernel
theorem dX10_isImage_130 : decode cX10_isImage 130 = .ok (.iinc 4 1, 3) := by decide +kernel
theorem dX10_isImage_133 : decode cX10_isImage 133 = .ok (.goto (-49), 3) := by decide +kernel
theorem dX10_isImage_136 : decode cX10_isImage 136 = .ok (.iconst 1, 1) := by decide +kernel
theorem dX10_isImage_137 : decode cX10_isImage 137 = .ok (.ireturn, 1) := by decide +kernel
theorem dX11_addByte_0 : decode cX11_addByte 0 = .ok (.aload_n 0, 1) := by decide +kernel
theorem dX11_addByte_1 : decode cX11_addByte 1 = .ok (.getfield 106, 3) := by decide +kernel
theorem dX11_addByte_4 : decode cX11_addByte 4 = .ok (.aload_n 0, 1) := by decide +kernel
theorem dX11_addByte_5 : decode cX11_addByte 5 = .ok (.getfield 103, 3) := by decide +kernel
theorem dX11_addByte_8 : decode cX11_addByte 8 = .ok (.arraylength, 1) := by decide +kernel
theorem dX11_addByte_9 : decode cX11_addByte 9 = .ok (.if_icmp .ge 23, 3) := by decide +kernel
theorem dX11_addByte_12 : decode cX11_addByte 12 = .ok (.aload_n 0, 1) := by decide +kernel
theorem dX11_addByte_13 : decode cX11_addByte 13 = .ok (.getfield 103, 3) := by decide +kernel
theorem dX11_addByte_16 : decode cX11_addByte 16 = .ok (.aload_n 0, 1) := by decide +kernel
theorem dX11_addByte_17 : decode cX11_addByte 17 = .ok (.getfield 106, 3) := by decide +kernel
theorem dX11_addByte_20 : decode cX11_addByte 20 = .ok (.iload_n 1, 1) := by decide +kernel
theorem dX11_addByte_21 : decode cX11_addByte 21 = .ok (.iastore, 1) := by decide +kernel
theorem dX11_addByte_22 : decode cX11_addByte 22 = .ok (.aload_n 0, 1) := by decide +kernel
theorem dX11_addByte_23 : decode cX11_addByte 23 = .ok (.dup, 1) := by decide +kernel
theorem dX11_addByte_24 : decode cX11_addByte 24 = .ok (.getfield 106, 3) := by decide +kernel
theorem dX11_addByte_27 : decode cX11_addByte 27 = .ok (.iconst 1, 1) := by decide +kernel
theorem dX11_addByte_28 : decode cX11_addByte 28 = .ok (.iadd, 1) := by decide +kernel
theorem dX11_addByte_29 : decode cX11_addByte 29 = .ok (.putfield 106, 3) := by decide +kernel
theorem dX11_addByte_32 : decode cX11_addByte 32 = .ok (.return_, 1) := by decide +kernel
theorem dX11_addTwo_0 : decode cX11_addTwo 0 = .ok (.aload_n 0, 1) := by decide +kernel
theorem dX11_addTwo_1 : decode cX11_addTwo 1 = .ok (.iload_n 1, 1) := by decide +kernel
theorem dX11_addTwo_2 : decode cX11_addTwo 2 = .ok (.sipush 256, 3) := by decide +kernel
theorem dX11_addTwo_5 : decode cX11_addTwo 5 = .ok (.idiv, 1) := by decide +kernel
theorem dX11_addTwo_6 : decode cX11_addTwo 6 = .ok (.invokevirtual 387, 3) := by decide +kernel
theorem dX11_addTwo_9 : decode cX11_addTwo 9 = .ok (.aload_n 0, 1) := by decide +kernel
theorem dX11_addTwo_10 : decode cX11_addTwo 10 = .ok (.iload_n 1, 1) := by decide +kernel
theorem dX11_addTwo_11 : decode cX11_addTwo 11 = .ok (.sipush 256, 3) := by decide +kernel
theorem dX11_addTwo_14 : decode cX11_addTwo 14 = .ok (.irem, 1) := by decide +kernel
theorem dX11_addTwo_15 : decode cX11_addTwo 15 = .ok (.invokevirtual 387, 3) := by decide +kernel
theorem dX11_addTwo_18 : decode cX11_addTwo 18 = .ok (.return_, 1) := by decide +kernel
theorem dX11_isSet_0 : decode cX11_isSet 0 = .ok (.iload_n 1, 1) := by decide +kernel
theorem dX11_isSet_1 : decode cX11_isSet 1 = .ok (.ifCond .le 19, 3) := by decide +kernel
theorem dX11_isSet_4 : decode cX11_isSet 4 = .ok (.iload_n 1, 1) := by decide +kernel
theorem dX11_isSet_5 : decode cX11_isSet 5 = .ok (.aload_n 0, 1) := by decide +kernel
theorem dX11_isSet_6 : decode cX11_isSet 6 = .ok (.getfield 50, 3) := by decide +kernel
theorem dX11_isSet_9 : decode cX11_isSet 9 = .ok (.getfield 178, 3) := by decide +kernel
theorem dX11_isSet_12 : decode cX11_isSet 12 = .ok (.ishr, 1) := by decide +kernel
theorem dX11_isSet_13 : decode cX11_isSet 13 = .ok (.ifCond .ne 7, 3) := by decide +kernel
theorem dX11_isSet_16 : decode cX11_isSet 16 = .ok (.iconst 1, 1) := by decide +kernel
theorem dX11_isSet_17 : decode cX11_isSet 17 = .ok (.goto 4, 3) := by decide +kernel
theorem dX11_isSet_20 : decode cX11_isSet 20 = .ok (.iconst 0, 1) := by decide +kernel
theorem dX11_isSet_21 : decode cX11_isSet 21 = .ok (.ireturn, 1) := by decide +kernel
theorem dX11_setOrNone_0 : decode cX11_setOrNone 0 = .ok (.iload_n 0, 1) := by decide +kernel
theorem dX11_setOrNone_1 : decode cX11_setOrNone 1 = .ok (.ifCond .le 7, 3) := by decide +kernel
theorem dX11_setOrNone_4 : decode cX11_setOrNone 4 = .ok (.iload_n 0, 1) := by decide +kernel
theorem dX11_setOrNone_5 : decode cX11_setOrNone 5 = .ok (.goto 4, 3) := by decide +kernel
theorem dX11_setOrNone_8 : decode cX11_setOrNone 8 = .ok (.iconst (-1), 1) := by decide +kernel
theorem dX11_setOrNone_9 : decode cX11_setOrNone 9 = .ok (.ireturn, 1) := by decide +kernel
theorem dX11_anew_0 : decode cX11_anew 0 = .ok (.aload_n 0, 1) := by decide +kernel
theorem dX11_anew_1 : decode cX11_anew 1 = .ok (.iload_n 1, 1) := by decide +kernel
theorem dX11_anew_2 : decode cX11_anew 2 = .ok (.invokevirtual 252, 3) := by decide +kernel
theorem dX11_anew_5 : decode cX11_anew 5 = .ok (.ifCond .eq 12, 3) := by decide +kernel
theorem dX11_anew_8 : decode cX11_anew 8 = .ok (.iload_n 3, 1) := by decide +kernel
theorem dX11_anew_9 : decode cX11_anew 9 = .ok (.ifCond .lt 8, 3) := by decide +kernel
theorem dX11_anew_12 : decode cX11_anew 12 = .ok (.iload_n 3, 1) := by decide +kernel
theorem dX11_anew_13 : decode cX11_anew 13 = .ok (.iconst 2, 1) := by decide +kernel
theorem dX11_anew_14 : decode cX11_anew 14 = .ok (.if_icmp .le 5, 3) := by decide +kernel
theorem dX11_anew_17 : decode cX11_anew 17 = .ok (.iconst (-1), 1) := by decide +kernel
theorem dX11_anew_18 : decode cX11_anew 18 = .ok (.ireturn, 1) := by decide +kernel
theorem dX11_anew_19 : decode cX11_anew 19 = .ok (.aload_n 0, 1) := by decide +kernel
theorem dX11_anew_20 : decode cX11_anew 20 = .ok (.getfield 59, 3) := by decide +kernel
theorem dX11_anew_23 : decode cX11_anew 23 = .ok (.iload_n 1, 1) := by decide +kernel
theorem dX11_anew_24 : decode cX11_anew 24 = .ok (.invokevirtual 255, 3) := by decide +kernel
theorem dX11_anew_27 : decode cX11_anew 27 = .ok (.lstore 4, 2) := by decide +kernel
theorem dX11_anew_29 : decode cX11_anew 29 = .ok (.iload_n 3, 1) := by decide +kernel
theorem dX11_anew_30 : decode cX11_anew 30 = .ok (.ifCond .ne 19, 3) := by decide +kernel
theorem dX11_anew_33 : decode cX11_anew 33 = .ok (.aload_n 0, 1) := by decide +kernel
theorem dX11_anew_34 : decode cX11_anew 34 = .ok (.getfield 59, 3) := by decide +kernel
theorem dX11_anew_37 : decode cX11_anew 37 = .ok (.lload 4, 2) := by decide +kernel
theorem dX11_anew_39 : decode cX11_anew 39 = .ok (.lload 4, 2) := by decide +kernel
theorem dX11_anew_41 : decode cX11_anew 41 = .ok (.ladd, 1) := by decide +kernel
theorem dX11_anew_42 : decode cX11_anew 42 = .ok (.invokevirtual 243, 3) := by decide +kernel
theorem dX11_anew_45 : decode cX11_anew 45 = .ok (.invokestatic 220, 3) := by decide +kernel
theorem dX11_anew_48 : decode cX11_anew 48 = .ok (.ireturn, 1) := by decide +kernel
theorem dX11_anew_49 : decode cX11_anew 49 = .ok (.aload_n 0, 1) := by decide +kernel
theorem dX11_anew_50 : decode cX11_anew 50 = .ok (.iload_n 2, 1) := by decide +kernel
theorem dX11_anew_51 : decode cX11_anew 51 = .ok (.invokevirtual 252, 3) := by decide +kernel
theorem dX11_anew_54 : decode cX11_anew 54 = .ok (.ifCond .ne 5, 3) := by decide +kernel
theorem dX11_anew_57 : decode cX11_anew 57 = .ok (.iconst (-1), 1) := by decide +kernel
theorem dX11_anew_58 : decode cX11_anew 58 = .ok (.ireturn, 1) := by decide +kernel
theorem dX11_anew_59 : decode cX11_anew 59 = .ok (.aload_n 0, 1) := by decide +kernel
theorem dX11_anew_60 : decode cX11_anew 60 = .ok (.getfield 59, 3) := by decide +kernel
theorem dX11_anew_63 : decode cX11_anew 63 = .ok (.iload_n 2, 1) := by decide +kernel
theorem dX11_anew_64 : decode cX11_anew 64 = .ok (.invokevirtual 255, 3) := by decide +kernel
theorem dX11_anew_67 : decode cX11_anew 67 = .ok (.lstore 6, 2) := by decide +kernel
theorem dX11_anew_69 : decode cX11_anew 69 = .ok (.aload_n 0, 1) := by decide +kernel
theorem dX11_anew_70 : decode cX11_anew 70 = .ok (.getfield 59, 3) := by decide +kernel
theorem dX11_anew_73 : decode cX11_anew 73 = .ok (.iload_n 3, 1) := by decide +kernel
theorem dX11_anew_74 : decode cX11_anew 74 = .ok (.iconst 1, 1) := by decide +kernel
theorem dX11_anew_75 : decode cX11_anew 75 = .ok (.if_icmp .ne 11, 3) := by decide +kernel
theorem dX11_anew_78 : decode cX11_anew 78 = .ok (.lload 4, 2) := by decide +kernel
theorem dX11_anew_80 : decode cX11_anew 80 = .ok (.lload 6, 2) := by decide +kernel
theorem dX11_anew_82 : decode cX11_anew 82 = .ok (.ladd, 1) := by decide +kernel
theorem dX11_anew_83 : decode cX11_anew 83 = .ok (.goto 8, 3) := by decide +kernel
theorem dX11_anew_86 : decode cX11_anew 86 = .ok (.lload 4, 2) := by decide +kernel
theorem dX11_anew_88 : decode cX11_anew 88 = .ok (.lload 6, 2) := by decide +kernel
theorem dX11_anew_90 : decode cX11_anew 90 = .ok (.lsub, 1) := by decide +kernel
theorem dX11_anew_91 : decode cX11_anew 91 = .ok (.invokevirtual 243, 3) := by decide +kernel
theorem dX11_anew_94 : decode cX11_anew 94 = .ok (.invokestatic 220, 3) := by decide +kernel
theorem dX11_anew_97 : decode cX11_anew 97 = .ok (.ireturn, 1) := by decide +kernel
theorem dX11_answerOf_0 : decode cX11_answerOf 0 = .ok (.aload_n 0, 1) := by decide +kernel
theorem dX11_answerOf_1 : decode cX11_answerOf 1 = .ok (.getfield 100, 3) := by decide +kernel
theorem dX11_answerOf_4 : decode cX11_answerOf 4 = .ok (.iconst 2, 1) := by decide +kernel
theorem dX11_answerOf_5 : decode cX11_answerOf 5 = .ok (.aload_n 0, 1) := by decide +kernel
theorem dX11_answerOf_6 : decode cX11_answerOf 6 = .ok (.getfield 66, 3) := by decide +kernel
theorem dX11_answerOf_9 : decode cX11_answerOf 9 = .ok (.getfield 184, 3) := by decide +kernel
theorem dX11_answerOf_12 : decode cX11_answerOf 12 = .ok (.iastore, 1) := by decide +kernel
theorem dX11_answerOf_13 : decode cX11_answerOf 13 = .ok (.aload_n 0, 1) := by decide +kernel
theorem dX11_answerOf_14 : decode cX11_answerOf 14 = .ok (.getfield 100, 3) := by decide +kernel
theorem dX11_answerOf_17 : decode cX11_answerOf 17 = .ok (.iconst 5, 1) := by decide +kernel
theorem dX11_answerOf_18 : decode cX11_answerOf 18 = .ok (.iload_n 1, 1) := by decide +kernel
theorem dX11_answerOf_19 : decode cX11_answerOf 19 = .ok (.iastore, 1) := by decide +kernel
theorem dX11_answerOf_20 : decode cX11_answerOf 20 = .ok (.aload_n 0, 1) := by decide +kernel
theorem dX11_answerOf_21 : decode cX11_answerOf 21 = .ok (.getfield 100, 3) := by decide +kernel
theorem dX11_answerOf_24 : decode cX11_answerOf 24 = .ok (.iconst 4, 1) := by decide +kernel
theorem dX11_answerOf_25 : decode cX11_answerOf 25 = .ok (.aload_n 0, 1) := by decide +kernel
theorem dX11_answerOf_26 : decode cX11_answerOf 26 = .ok (.getfield 66, 3) := by decide +kernel
theorem dX11_answerOf_29 : decode cX11_answerOf 29 = .ok (.getfield 207, 3) := by decide +kernel
theorem dX11_answerOf_32 : decode cX11_answerOf 32 = .ok (.iload_n 1, 1) := by decide +kernel
theorem dX11_answerOf_33 : decode cX11_answerOf 33 = .ok (.iaload, 1) := by decide +kernel
theorem dX11_answerOf_34 : decode cX11_answerOf 34 = .ok (.iastore, 1) := by decide +kernel
theorem dX11_answerOf_35 : decode cX11_answerOf 35 = .ok (.aload_n 0, 1) := by decide +kernel
theorem dX11_answerOf_36 : decode cX11_answerOf 36 = .ok (.getfield 100, 3) := by decide +kernel
theorem dX11_answerOf_39 : decode cX11_answerOf 39 = .ok (.bipush 6, 2) := by decide +kernel
theorem dX11_answerOf_41 : decode cX11_answerOf 41 = .ok (.aload_n 0, 1) := by decide +kernel
theorem dX11_answerOf_42 : decode cX11_answerOf 42 = .ok (.getfield 50, 3) := by decide +kernel
theorem dX11_answerOf_45 : decode cX11_answerOf 45 = .ok (.getfield 149, 3) := by decide +kernel
theorem dX11_answerOf_48 : decode cX11_answerOf 48 = .ok (.iload_n 1, 1) := by decide +kernel
theorem dX11_answerOf_49 : decode cX11_answerOf 49 = .ok (.iaload, 1) := by decide +kernel
theorem dX11_answerOf_50 : decode cX11_answerOf 50 = .ok (.iastore, 1) := by decide +kernel
theorem dX11_answerOf_51 : decode cX11_answerOf 51 = .ok (.aload_n 0, 1) := by decide +kernel
theorem dX11_answerOf_52 : decode cX11_answerOf 52 = .ok (.getfield 100, 3) := by decide +kernel
theorem dX11_answerOf_55 : decode cX11_answerOf 55 = .ok (.bipush 7, 2) := by decide +kernel
theorem dX11_answerOf_57 : decode cX11_answerOf 57 = .ok (.aload_n 0, 1) := by decide +kernel
theorem dX11_answerOf_58 : decode cX11_answerOf 58 = .ok (.getfield 50, 3) := by decide +kernel
theorem dX11_answerOf_61 : decode cX11_answerOf 61 = .ok (.getfield 152, 3) := by decide +kernel
theorem dX11_answerOf_64 : decode cX11_answerOf 64 = .ok (.iload_n 1, 1) := by decide +kernel
theorem dX11_answerOf_65 : decode cX11_answerOf 65 = .ok (.iaload, 1) := by decide +kernel
theorem dX11_answerOf_66 : decode cX11_answerOf 66 = .ok (.iastore, 1) := by decide +kernel
theorem dX11_answerOf_67 : decode cX11_answerOf 67 = .ok (.aload_n 0, 1) := by decide +kernel
theorem dX11_answerOf_68 : decode cX11_answerOf 68 = .ok (.getfield 100, 3) := by decide +kernel
theorem dX11_answerOf_71 : decode cX11_answerOf 71 = .ok (.bipush 8, 2) := by decide +kernel
theorem dX11_answerOf_73 : decode cX11_answerOf 73 = .ok (.aload_n 0, 1) := by decide +kernel
theorem dX11_answerOf_74 : decode cX11_answerOf 74 = .ok (.getfield 50, 3) := by decide +kernel
theorem dX11_answerOf_77 : decode cX11_answerOf 77 = .ok (.getfield 213, 3) := by decide +kernel
theorem dX11_answerOf_80 : decode cX11_answerOf 80 = .ok (.iload_n 1, 1) := by decide +kernel
theorem dX11_answerOf_81 : decode cX11_answerOf 81 = .ok (.iaload, 1) := by decide +kernel
theorem dX11_answerOf_82 : decode cX11_answerOf 82 = .ok (.iastore, 1) := by decide +kernel
theorem dX11_answerOf_83 : decode cX11_answerOf 83 = .ok (.aload_n 0, 1) := by decide +kernel
theorem dX11_answerOf_84 : decode cX11_answerOf 84 = .ok (.getfield 100, 3) := by decide +kernel
theorem dX11_answerOf_87 : decode cX11_answerOf 87 = .ok (.bipush 9, 2) := by decide +kernel
theorem dX11_answerOf_89 : decode cX11_answerOf 89 = .ok (.aload_n 0, 1) := by decide +kernel
theorem dX11_answerOf_90 : decode cX11_answerOf 90 = .ok (.getfield 66, 3) := by decide +kernel
theorem dX11_answerOf_93 : decode cX11_answerOf 93 = .ok (.getfield 210, 3) := by decide +kernel
theorem dX11_answerOf_96 : decode cX11_answerOf 96 = .ok (.iload_n 1, 1) := by decide +kernel
theorem dX11_answerOf_97 : decode cX11_answerOf 97 = .ok (.iaload, 1) := by decide +kernel
theorem dX11_answerOf_98 : decode cX11_answerOf 98 = .ok (.iastore, 1) := by decide +kernel
theorem dX11_answerOf_99 : decode cX11_answerOf 99 = .ok (.aload_n 0, 1) := by decide +kernel
theorem dX11_answerOf_100 : decode cX11_answerOf 100 = .ok (.getfield 100, 3) := by decide +kernel
theorem dX11_answerOf_103 : decode cX11_answerOf 103 = .ok (.bipush 10, 2) := by decide +kernel
theorem dX11_answerOf_105 : decode cX11_answerOf 105 = .ok (.aload_n 0, 1) := by decide +kernel
theorem dX11_answerOf_106 : decode cX11_answerOf 106 = .ok (.getfield 50, 3) := by decide +kernel
theorem dX11_answerOf_109 : decode cX11_answerOf 109 = .ok (.getfield 419, 3) := by decide +kernel
theorem dX11_answerOf_112 : decode cX11_answerOf 112 = .ok (.iload_n 1, 1) := by decide +kernel
theorem dX11_answerOf_113 : decode cX11_answerOf 113 = .ok (.iaload, 1) := by decide +kernel
theorem dX11_answerOf_114 : decode cX11_answerOf 114 = .ok (.iastore, 1) := by decide +kernel
theorem dX11_answerOf_115 : decode cX11_answerOf 115 = .ok (.aload_n 0, 1) := by decide +kernel
theorem dX11_answerOf_116 : decode cX11_answerOf 116 = .ok (.getfield 66, 3) := by decide +kernel
theorem dX11_answerOf_119 : decode cX11_answerOf 119 = .ok (.getfield 226, 3) := by decide +kernel
theorem dX11_answerOf_122 : decode cX11_answerOf 122 = .ok (.iconst 0, 1) := by decide +kernel
theorem dX11_answerOf_123 : decode cX11_answerOf 123 = .ok (.aload_n 0, 1) := by decide +kernel
theorem dX11_answerOf_124 : decode cX11_answerOf 124 = .ok (.getfield 100, 3) := by decide +kernel
theorem dX11_answerOf_127 : decode cX11_answerOf 127 = .ok (.bipush 11, 2) := by decide +kernel
theorem dX11_answerOf_129 : decode cX11_answerOf 129 = .ok (.bipush 25, 2) := by decide +kernel
theorem dX11_answerOf_131 : decode cX11_answerOf 131 = .ok (.invokestatic 422, 3) := by decide +kernel
theorem dX11_answerOf_134 : decode cX11_answerOf 134 = .ok (.aload_n 0, 1) := by decide +kernel
theorem dX11_answerOf_135 : decode cX11_answerOf 135 = .ok (.getfield 96, 3) := by decide +kernel
theorem dX11_answerOf_138 : decode cX11_answerOf 138 = .ok (.aload_n 0, 1) := by decide +kernel
theorem dX11_answerOf_139 : decode cX11_answerOf 139 = .ok (.getfield 100, 3) := by decide +kernel
theorem dX11_answerOf_142 : decode cX11_answerOf 142 = .ok (.invokevirtual 415, 3) := by decide +kernel
theorem dX11_answerOf_145 : decode cX11_answerOf 145 = .ok (.ireturn, 1) := by decide +kernel
theorem dX11_hasOffice_0 : decode cX11_hasOffice 0 = .ok (.aload_n 0, 1) := by decide +kernel
theorem dX11_hasOffice_1 : decode cX11_hasOffice 1 = .ok (.getfield 50, 3) := by decide +kernel
theorem dX11_hasOffice_4 : decode cX11_hasOffice 4 = .ok (.getfield 178, 3) := by decide +kernel
theorem dX11_hasOffice_7 : decode cX11_hasOffice 7 = .ok (.ifCond .le 7, 3) := by decide +kernel
theorem dX11_hasOffice_10 : decode cX11_hasOffice 10 = .ok (.iconst 1, 1) := by decide +kernel
theorem dX11_hasOffice_11 : decode cX11_hasOffice 11 = .ok (.goto 4, 3) := by decide +kernel
theorem dX11_hasOffice_14 : decode cX11_hasOffice 14 = .ok (.iconst 0, 1) := by decide +kernel
theorem dX11_hasOffice_15 : decode cX11_hasOffice 15 = .ok (.ireturn, 1) := by decide +kernel
theorem dX11_keepFault_0 : decode cX11_keepFault 0 = .ok (.aload_n 0, 1) := by decide +kernel
theorem dX11_keepFault_1 : decode cX11_keepFault 1 = .ok (.aload_n 0, 1) := by decide +kernel
theorem dX11_keepFault_2 : decode cX11_keepFault 2 = .ok (.getfield 25, 3) := by decide +kernel
theorem dX11_keepFault_5 : decode cX11_keepFault 5 = .ok (.getfield 400, 3) := by decide +kernel
theorem dX11_keepFault_8 : decode cX11_keepFault 8 = .ok (.putfield 113, 3) := by decide +kernel
theorem dX11_keepFault_11 : decode cX11_keepFault 11 = .ok (.aload_n 0, 1) := by decide +kernel
theorem dX11_keepFault_12 : decode cX11_keepFault 12 = .ok (.aload_n 0, 1) := by decide +kernel
theorem dX11_keepFault_13 : decode cX11_keepFault 13 = .ok (.getfield 25, 3) := by decide +kernel
theorem dX11_keepFault_16 : decode cX11_keepFault 16 = .ok (.getfield 403, 3) := by decide +kernel
theorem dX11_keepFault_19 : decode cX11_keepFault 19 = .ok (.putfield 116, 3) := by decide +kernel
theorem dX11_keepFault_22 : decode cX11_keepFault 22 = .ok (.return_, 1) := by decide +kernel
theorem dX11_firstHolding_0 : decode cX11_firstHolding 0 = .ok (.iconst 0, 1) := by decide +kernel
theorem dX11_firstHolding_1 : decode cX11_firstHolding 1 = .ok (.istore_n 1, 1) := by decide +kernel
theorem dX11_firstHolding_2 : decode cX11_firstHolding 2 = .ok (.iload_n 1, 1) := by decide +kernel
theorem dX11_firstHolding_3 : decode cX11_firstHolding 3 = .ok (.aload_n 0, 1) := by decide +kernel
theorem dX11_firstHolding_4 : decode cX11_firstHolding 4 = .ok (.getfield 50, 3) := by decide +kernel
theorem dX11_firstHolding_7 : decode cX11_firstHolding 7 = .ok (.getfield 146, 3) := by decide +kernel
theorem dX11_firstHolding_10 : decode cX11_firstHolding 10 = .ok (.if_icmp .ge 20, 3) := by decide +kernel
theorem dX11_firstHolding_13 : decode cX11_firstHolding 13 = .ok (.aload_n 0, 1) := by decide +kernel
theorem dX11_firstHolding_14 : decode cX11_firstHolding 14 = .ok (.iload_n 1, 1) := by decide +kernel
theorem dX11_firstHolding_15 : decode cX11_firstHolding 15 = .ok (.invokevirtual 428, 3) := by decide +kernel
theorem dX11_firstHolding_18 : decode cX11_firstHolding 18 = .ok (.ifCond .eq 6, 3) := by decide +kernel
theorem dX11_firstHolding_21 : decode cX11_firstHolding 21 = .ok (.iload_n 1, 1) := by decide +kernel
theorem dX11_firstHolding_22 : decode cX11_firstHolding 22 = .ok (.i2l, 1) := by decide +kernel
theorem dX11_firstHolding_23 : decode cX11_firstHolding 23 = .ok (.lreturn, 1) := by decide +kernel
theorem dX11_firstHolding_24 : decode cX11_firstHolding 24 = .ok (.iinc 1 1, 3) := by decide +kernel
theorem dX11_firstHolding_27 : decode cX11_firstHolding 27 = .ok (.goto (-25), 3) := by decide +kernel
theorem dX11_firstHolding_30 : decode cX11_firstHolding 30 = .ok (.ldc2_w 431, 3) := by decide +kernel
theorem dX11_firstHolding_33 : decode cX11_firstHolding 33 = .ok (.lreturn, 1) := by decide +kernel
theorem dX11_lastHolding_0 : decode cX11_lastHolding 0 = .ok (.aload_n 0, 1) := by decide +kernel
theorem dX11_lastHolding_1 : decode cX11_lastHolding 1 = .ok (.getfield 50, 3) := by decide +kernel
theorem dX11_lastHolding_4 : decode cX11_lastHolding 4 = .ok (.getfield 146, 3) := by decide +kernel
theorem dX11_lastHolding_7 : decode cX11_lastHolding 7 = .ok (.iconst 1, 1) := by decide +kernel
theorem dX11_lastHolding_8 : decode cX11_lastHolding 8 = .ok (.isub, 1) := by decide +kernel
theorem dX11_lastHolding_9 : decode cX11_lastHolding 9 = .ok (.istore_n 1, 1) := by decide +kernel
theorem dX11_lastHolding_10 : decode cX11_lastHolding 10 = .ok (.iload_n 1, 1) := by decide +kernel
theorem dX11_lastHolding_11 : decode cX11_lastHolding 11 = .ok (.ifCond .lt 20, 3) := by decide +kernel
theorem dX11_lastHolding_14 : decode cX11_lastHolding 14 = .ok (.aload_n 0, 1) := by decide +kernel
theorem dX11_lastHolding_15 : decode cX11_lastHolding 15 = .ok (.iload_n 1, 1) := by decide +kernel
theorem dX11_lastHolding_16 : decode cX11_lastHolding 16 = .ok (.invokevirtual 428, 3) := by decide +kernel
theorem dX11_lastHolding_19 : decode cX11_lastHolding 19 = .ok (.ifCond .eq 6, 3) := by decide +kernel
theorem dX11_lastHolding_22 : decode cX11_lastHolding 22 = .ok (.iload_n 1, 1) := by decide +kernel
theorem dX11_lastHolding_23 : decode cX11_lastHolding 23 = .ok (.i2l, 1) := by decide +kernel
theorem dX11_lastHolding_24 : decode cX11_lastHolding 24 = .ok (.lreturn, 1) := by decide +kernel
theorem dX11_lastHolding_25 : decode cX11_lastHolding 25 = .ok (.iinc 1 (-1), 3) := by decide +kernel
theorem dX11_lastHolding_28 : decode cX11_lastHolding 28 = .ok (.goto (-18), 3) := by decide +kernel
theorem dX11_lastHolding_31 : decode cX11_lastHolding 31 = .ok (.ldc2_w 431, 3) := by decide +kernel
theorem dX11_lastHolding_34 : decode cX11_lastHolding 34 = .ok (.lreturn, 1) := by decide +kernel
theorem dX11_sumOfAll_0 : decode cX11_sumOfAll 0 = .ok (.lconst 0, 1) := by decide +kernel
theorem dX11_sumOfAll_1 : decode cX11_sumOfAll 1 = .ok (.lstore_n 1, 1) := by decide +kernel
theorem dX11_sumOfAll_2 : decode cX11_sumOfAll 2 = .ok (.iconst 0, 1) := by decide +kernel
theorem dX11_sumOfAll_3 : decode cX11_sumOfAll 3 = .ok (.istore_n 3, 1) := by decide +kernel
theorem dX11_sumOfAll_4 : decode cX11_sumOfAll 4 = .ok (.iload_n 3, 1) := by decide +kernel
theorem dX11_sumOfAll_5 : decode cX11_sumOfAll 5 = .ok (.aload_n 0, 1) := by decide +kernel
theorem dX11_sumOfAll_6 : decode cX11_sumOfAll 6 = .ok (.getfield 50, 3) := by decide +kernel
theorem dX11_sumOfAll_9 : decode cX11_sumOfAll 9 = .ok (.getfield 146, 3) := by decide +kernel
theorem dX11_sumOfAll_12 : decode cX11_sumOfAll 12 = .ok (.if_icmp .ge 18, 3) := by decide +kernel
theorem dX11_sumOfAll_15 : decode cX11_sumOfAll 15 = .ok (.lload_n 1, 1) := by decide +kernel
theorem dX11_sumOfAll_16 : decode cX11_sumOfAll 16 = .ok (.aload_n 0, 1) := by decide +kernel
theorem dX11_sumOfAll_17 : decode cX11_sumOfAll 17 = .ok (.iload_n 3, 1) := by decide +kernel
theorem dX11_sumOfAll_18 : decode cX11_sumOfAll 18 = .ok (.invokevirtual 428, 3) := by decide +kernel
theorem dX11_sumOfAll_21 : decode cX11_sumOfAll 21 = .ok (.i2l, 1) := by decide +kernel
theorem dX11_sumOfAll_22 : decode cX11_sumOfAll 22 = .ok (.ladd, 1) := by decide +kernel
theorem dX11_sumOfAll_23 : decode cX11_sumOfAll 23 = .ok (.lstore_n 1, 1) := by decide +kernel
theorem dX11_sumOfAll_24 : decode cX11_sumOfAll 24 = .ok (.iinc 3 1, 3) := by decide +kernel
theorem dX11_sumOfAll_27 : decode cX11_sumOfAll 27 = .ok (.goto (-23), 3) := by decide +kernel
theorem dX11_sumOfAll_30 : decode cX11_sumOfAll 30 = .ok (.lload_n 1, 1) := by decide +kernel
theorem dX11_sumOfAll_31 : decode cX11_sumOfAll 31 = .ok (.lreturn, 1) := by decide +kernel
theorem dX11_greatestOfAll_0 : decode cX11_greatestOfAll 0 = .ok (.lconst 0, 1) := by decide +kernel
theorem dX11_greatestOfAll_1 : decode cX11_greatestOfAll 1 = .ok (.lstore_n 1, 1) := by decide +kernel
theorem dX11_greatestOfAll_2 : decode cX11_greatestOfAll 2 = .ok (.iconst 0, 1) := by decide +kernel
theorem dX11_greatestOfAll_3 : decode cX11_greatestOfAll 3 = .ok (.istore_n 3, 1) := by decide +kernel
theorem dX11_greatestOfAll_4 : decode cX11_greatestOfAll 4 = .ok (.iload_n 3, 1) := by decide +kernel
theorem dX11_greatestOfAll_5 : decode cX11_greatestOfAll 5 = .ok (.aload_n 0, 1) := by decide +kernel
theorem dX11_greatestOfAll_6 : decode cX11_greatestOfAll 6 = .ok (.getfield 50, 3) := by decide +kernel
theorem dX11_greatestOfAll_9 : decode cX11_greatestOfAll 9 = .ok (.getfield 146, 3) := by decide +kernel
theorem dX11_greatestOfAll_12 : decode cX11_greatestOfAll 12 = .ok (.if_icmp .ge 33, 3) := by decide +kernel
theorem dX11_greatestOfAll_15 : decode cX11_greatestOfAll 15 = .ok (.aload_n 0, 1) := by decide +kernel
theorem dX11_greatestOfAll_16 : decode cX11_greatestOfAll 16 = .ok (.iload_n 3, 1) := by decide +kernel
theorem dX11_greatestOfAll_17 : decode cX11_greatestOfAll 17 = .ok (.invokevirtual 428, 3) := by decide +kernel
theorem dX11_greatestOfAll_20 : decode cX11_greatestOfAll 20 = .ok (.i2l, 1) := by decide +kernel
theorem dX11_greatestOfAll_21 : decode cX11_greatestOfAll 21 = .ok (.lstore 4, 2) := by decide +kernel
theorem dX11_greatestOfAll_23 : decode cX11_greatestOfAll 23 = .ok (.iload_n 3, 1) := by decide +kernel
theorem dX11_greatestOfAll_24 : decode cX11_greatestOfAll 24 = .ok (.ifCond .ne 8, 3) := by decide +kernel
theorem dX11_greatestOfAll_27 : decode cX11_greatestOfAll 27 = .ok (.lload 4, 2) := by decide +kernel
theorem dX11_greatestOfAll_29 : decode cX11_greatestOfAll 29 = .ok (.goto 9, 3) := by decide +kernel
theorem dX11_greatestOfAll_32 : decode cX11_greatestOfAll 32 = .ok (.lload_n 1, 1) := by decide +kernel
theorem dX11_greatestOfAll_33 : decode cX11_greatestOfAll 33 = .ok (.lload 4, 2) := by decide +kernel
theorem dX11_greatestOfAll_35 : decode cX11_greatestOfAll 35 = .ok (.invokestatic 433, 3) := by decide +kernel
theorem dX11_greatestOfAll_38 : decode cX11_greatestOfAll 38 = .ok (.lstore_n 1, 1) := by decide +kernel
theorem dX11_greatestOfAll_39 : decode cX11_greatestOfAll 39 = .ok (.iinc 3 1, 3) := by decide +kernel
theorem dX11_greatestOfAll_42 : decode cX11_greatestOfAll 42 = .ok (.goto (-38), 3) := by decide +kernel
theorem dX11_greatestOfAll_45 : decode cX11_greatestOfAll 45 = .ok (.lload_n 1, 1) := by decide +kernel
theorem dX11_greatestOfAll_46 : decode cX11_greatestOfAll 46 = .ok (.lreturn, 1) := by decide +kernel
theorem dX11_leastOfAll_0 : decode cX11_leastOfAll 0 = .ok (.lconst 0, 1) := by decide +kernel
theorem dX11_leastOfAll_1 : decode cX11_leastOfAll 1 = .ok (.lstore_n 1, 1) := by decide +kernel
theorem dX11_leastOfAll_2 : decode cX11_leastOfAll 2 = .ok (.iconst 0, 1) := by decide +kernel
theorem dX11_leastOfAll_3 : decode cX11_leastOfAll 3 = .ok (.istore_n 3, 1) := by decide +kernel
theorem dX11_leastOfAll_4 : decode cX11_leastOfAll 4 = .ok (.iload_n 3, 1) := by decide +kernel
theorem dX11_leastOfAll_5 : decode cX11_leastOfAll 5 = .ok (.aload_n 0, 1) := by decide +kernel
theorem dX11_leastOfAll_6 : decode cX11_leastOfAll 6 = .ok (.getfield 50, 3) := by decide +kernel
theorem dX11_leastOfAll_9 : decode cX11_leastOfAll 9 = .ok (.getfield 146, 3) := by decide +kernel
theorem dX11_leastOfAll_12 : decode cX11_leastOfAll 12 = .ok (.if_icmp .ge 33, 3) := by decide +kernel
theorem dX11_leastOfAll_15 : decode cX11_leastOfAll 15 = .ok (.aload_n 0, 1) := by decide +kernel
theorem dX11_leastOfAll_16 : decode cX11_leastOfAll 16 = .ok (.iload_n 3, 1) := by decide +kernel
theorem dX11_leastOfAll_17 : decode cX11_leastOfAll 17 = .ok (.invokevirtual 428, 3) := by decide +kernel
theorem dX11_leastOfAll_20 : decode cX11_leastOfAll 20 = .ok (.i2l, 1) := by decide +kernel
theorem dX11_leastOfAll_21 : decode cX11_leastOfAll 21 = .ok (.lstore 4, 2) := by decide +kernel
theorem dX11_leastOfAll_23 : decode cX11_leastOfAll 23 = .ok (.iload_n 3, 1) := by decide +kernel
theorem dX11_leastOfAll_24 : decode cX11_leastOfAll 24 = .ok (.ifCond .ne 8, 3) := by decide +kernel
theorem dX11_leastOfAll_27 : decode cX11_leastOfAll 27 = .ok (.lload 4, 2) := by decide +kernel
theorem dX11_leastOfAll_29 : decode cX11_leastOfAll 29 = .ok (.goto 9, 3) := by decide +kernel
theorem dX11_leastOfAll_32 : decode cX11_leastOfAll 32 = .ok (.lload_n 1, 1) := by decide +kernel
theorem dX11_leastOfAll_33 : decode cX11_leastOfAll 33 = .ok (.lload 4, 2) := by decide +kernel
theorem dX11_leastOfAll_35 : decode cX11_leastOfAll 35 = .ok (.invokestatic 438, 3) := by decide +kernel
theorem dX11_leastOfAll_38 : decode cX11_leastOfAll 38 = .ok (.lstore_n 1, 1) := by decide +kernel
theorem dX11_leastOfAll_39 : decode cX11_leastOfAll 39 = .ok (.iinc 3 1, 3) := by decide +kernel
theorem dX11_leastOfAll_42 : decode cX11_leastOfAll 42 = .ok (.goto (-38), 3) := by decide +kernel
theorem dX11_leastOfAll_45 : decode cX11_leastOfAll 45 = .ok (.lload_n 1, 1) := by decide +kernel
theorem dX11_leastOfAll_46 : decode cX11_leastOfAll 46 = .ok (.lreturn, 1) := by decide +kernel
theorem dX11_ask_0 : decode cX11_ask 0 = .ok (.aload_n 0, 1) := by decide +kernel
theorem dX11_ask_1 : decode cX11_ask 1 = .ok (.invokevirtual 287, 3) := by decide +kernel
theorem dX11_ask_4 : decode cX11_ask 4 = .ok (.ifCond .ne 15, 3) := by decide +kernel
theorem dX11_ask_7 : decode cX11_ask 7 = .ok (.aload_n 0, 1) := by decide +kernel
theorem dX11_ask_8 : decode cX11_ask 8 = .ok (.getfield 16, 3) := by decide +kernel
theorem dX11_ask_11 : decode cX11_ask 11 = .ok (.iconst 0, 1) := by decide +kernel
theorem dX11_ask_12 : decode cX11_ask 12 = .ok (.putfield 119, 3) := by decide +kernel
theorem dX11_ask_15 : decode cX11_ask 15 = .ok (.ldc2_w 246, 3) := by decide +kernel
theorem dX11_ask_18 : decode cX11_ask 18 = .ok (.lreturn, 1) := by decide +kernel
theorem dX11_ask_19 : decode cX11_ask 19 = .ok (.aload_n 0, 1) := by decide +kernel
theorem dX11_ask_20 : decode cX11_ask 20 = .ok (.getfield 34, 3) := by decide +kernel
theorem dX11_ask_23 : decode cX11_ask 23 = .ok (.aload_n 0, 1) := by decide +kernel
theorem dX11_ask_24 : decode cX11_ask 24 = .ok (.getfield 96, 3) := by decide +kernel
theorem dX11_ask_27 : decode cX11_ask 27 = .ok (.invokevirtual 364, 3) := by decide +kernel
theorem dX11_ask_30 : decode cX11_ask 30 = .ok (.istore_n 1, 1) := by decide +kernel
theorem dX11_ask_31 : decode cX11_ask 31 = .ok (.aload_n 0, 1) := by decide +kernel
theorem dX11_ask_32 : decode cX11_ask 32 = .ok (.getfield 16, 3) := by decide +kernel
theorem dX11_ask_35 : decode cX11_ask 35 = .ok (.iconst 0, 1) := by decide +kernel
theorem dX11_ask_36 : decode cX11_ask 36 = .ok (.putfield 119, 3) := by decide +kernel
theorem dX11_ask_39 : decode cX11_ask 39 = .ok (.aload_n 0, 1) := by decide +kernel
theorem dX11_ask_40 : decode cX11_ask 40 = .ok (.invokevirtual 134, 3) := by decide +kernel
theorem dX11_ask_43 : decode cX11_ask 43 = .ok (.iload_n 1, 1) := by decide +kernel
theorem dX11_ask_44 : decode cX11_ask 44 = .ok (.tableswitch 65 1 6 #[40, 45, 50, 50, 55, 60], 40) := by decide +kernel
theorem dX11_ask_84 : decode cX11_ask 84 = .ok (.aload_n 0, 1) := by decide +kernel
theorem dX11_ask_85 : decode cX11_ask 85 = .ok (.invokevirtual 368, 3) := by decide +kernel
theorem dX11_ask_88 : decode cX11_ask 88 = .ok (.lreturn, 1) := by decide +kernel
theorem dX11_ask_89 : decode cX11_ask 89 = .ok (.aload_n 0, 1) := by decide +kernel
theorem dX11_ask_90 : decode cX11_ask 90 = .ok (.invokevirtual 372, 3) := by decide +kernel
theorem dX11_ask_93 : decode cX11_ask 93 = .ok (.lreturn, 1) := by decide +kernel
theorem dX11_ask_94 : decode cX11_ask 94 = .ok (.aload_n 0, 1) := by decide +kernel
theorem dX11_ask_95 : decode cX11_ask 95 = .ok (.invokevirtual 375, 3) := by decide +kernel
theorem dX11_ask_98 : decode cX11_ask 98 = .ok (.lreturn, 1) := by decide +kernel
theorem dX11_ask_99 : decode cX11_ask 99 = .ok (.aload_n 0, 1) := by decide +kernel
theorem dX11_ask_100 : decode cX11_ask 100 = .ok (.invokevirtual 378, 3) := by decide +kernel
theorem dX11_ask_103 : decode cX11_ask 103 = .ok (.lreturn, 1) := by decide +kernel
theorem dX11_ask_104 : decode cX11_ask 104 = .ok (.aload_n 0, 1) := by decide +kernel
theorem dX11_ask_105 : decode cX11_ask 105 = .ok (.invokevirtual 381, 3) := by decide +kernel
theorem dX11_ask_108 : decode cX11_ask 108 = .ok (.lreturn, 1) := by decide +kernel
theorem dX11_ask_109 : decode cX11_ask 109 = .ok (.ldc2_w 246, 3) := by decide +kernel
theorem dX11_ask_112 : decode cX11_ask 112 = .ok (.lreturn, 1) := by decide +kernel
theorem dX11_refuse_0 : decode cX11_refuse 0 = .ok (.iload_n 1, 1) := by decide +kernel
theorem dX11_refuse_1 : decode cX11_refuse 1 = .ok (.ifCond .lt 22, 3) := by decide +kernel
theorem dX11_refuse_4 : decode cX11_refuse 4 = .ok (.iload_n 1, 1) := by decide +kernel
theorem dX11_refuse_5 : decode cX11_refuse 5 = .ok (.aload_n 0, 1) := by decide +kernel
theorem dX11_refuse_6 : decode cX11_refuse 6 = .ok (.getfield 7, 3) := by decide +kernel
theorem dX11_refuse_9 : decode cX11_refuse 9 = .ok (.arraylength, 1) := by decide +kernel
theorem dX11_refuse_10 : decode cX11_refuse 10 = .ok (.if_icmp .ge 13, 3) := by decide +kernel
theorem dX11_refuse_13 : decode cX11_refuse 13 = .ok (.aload_n 0, 1) := by decide +kernel
theorem dX11_refuse_14 : decode cX11_refuse 14 = .ok (.getfield 7, 3) := by decide +kernel
theorem dX11_refuse_17 : decode cX11_refuse 17 = .ok (.iload_n 1, 1) := by decide +kernel
theorem dX11_refuse_18 : decode cX11_refuse 18 = .ok (.dup2, 1) := by decide +kernel
theorem dX11_refuse_19 : decode cX11_refuse 19 = .ok (.iaload, 1) := by decide +kernel
theorem dX11_refuse_20 : decode cX11_refuse 20 = .ok (.iconst 1, 1) := by decide +kernel
theorem dX11_refuse_21 : decode cX11_refuse 21 = .ok (.iadd, 1) := by decide +kernel
theorem dX11_refuse_22 : decode cX11_refuse 22 = .ok (.iastore, 1) := by decide +kernel
theorem dX11_refuse_23 : decode cX11_refuse 23 = .ok (.iconst (-1), 1) := by decide +kernel
theorem dX11_refuse_24 : decode cX11_refuse 24 = .ok (.ireturn, 1) := by decide +kernel
theorem dX11_bake_0 : decode cX11_bake 0 = .ok (.aload_n 0, 1) := by decide +kernel
theorem dX11_bake_1 : decode cX11_bake 1 = .ok (.invokevirtual 287, 3) := by decide +kernel
theorem dX11_bake_4 : decode cX11_bake 4 = .ok (.ifCond .eq 31, 3) := by decide +kernel
theorem dX11_bake_7 : decode cX11_bake 7 = .ok (.iload_n 1, 1) := by decide +kernel
theorem dX11_bake_8 : decode cX11_bake 8 = .ok (.iconst 1, 1) := by decide +kernel
theorem dX11_bake_9 : decode cX11_bake 9 = .ok (.if_icmp .lt 26, 3) := by decide +kernel
theorem dX11_bake_12 : decode cX11_bake 12 = .ok (.iload_n 1, 1) := by decide +kernel
theorem dX11_bake_13 : decode cX11_bake 13 = .ok (.bipush 99, 2) := by decide +kernel
theorem dX11_bake_15 : decode cX11_bake 15 = .ok (.if_icmp .gt 20, 3) := by decide +kernel
theorem dX11_bake_18 : decode cX11_bake 18 = .ok (.aload_n 0, 1) := by decide +kernel
theorem dX11_bake_19 : decode cX11_bake 19 = .ok (.getfield 66, 3) := by decide +kernel
theorem dX11_bake_22 : decode cX11_bake 22 = .ok (.getfield 226, 3) := by decide +kernel
theorem dX11_bake_25 : decode cX11_bake 25 = .ok (.iconst 1, 1) := by decide +kernel
theorem dX11_bake_26 : decode cX11_bake 26 = .ok (.iaload, 1) := by decide +kernel
theorem dX11_bake_27 : decode cX11_bake 27 = .ok (.iload_n 1, 1) := by decide +kernel
theorem dX11_bake_28 : decode cX11_bake 28 = .ok (.iadd, 1) := by decide +kernel
theorem dX11_bake_29 : decode cX11_bake 29 = .ok (.sipush 999, 3) := by decide +kernel
theorem dX11_bake_32 : decode cX11_bake 32 = .ok (.if_icmp .le 9, 3) := by decide +kernel
theorem dX11_bake_35 : decode cX11_bake 35 = .ok (.aload_n 0, 1) := by decide +kernel
theorem dX11_bake_36 : decode cX11_bake 36 = .ok (.iconst 2, 1) := by decide +kernel
theorem dX11_bake_37 : decode cX11_bake 37 = .ok (.invokevirtual 122, 3) := by decide +kernel
theorem dX11_bake_40 : decode cX11_bake 40 = .ok (.ireturn, 1) := by decide +kernel
theorem dX11_bake_41 : decode cX11_bake 41 = .ok (.aload_n 0, 1) := by decide +kernel
theorem dX11_bake_42 : decode cX11_bake 42 = .ok (.getfield 73, 3) := by decide +kernel
theorem dX11_bake_45 : decode cX11_bake 45 = .ok (.aload_n 0, 1) := by decide +kernel
theorem dX11_bake_46 : decode cX11_bake 46 = .ok (.getfield 66, 3) := by decide +kernel
theorem dX11_bake_49 : decode cX11_bake 49 = .ok (.invokevirtual 325, 3) := by decide +kernel
theorem dX11_bake_52 : decode cX11_bake 52 = .ok (.aload_n 0, 1) := by decide +kernel
theorem dX11_bake_53 : decode cX11_bake 53 = .ok (.getfield 66, 3) := by decide +kernel
theorem dX11_bake_56 : decode cX11_bake 56 = .ok (.getfield 226, 3) := by decide +kernel
theorem dX11_bake_59 : decode cX11_bake 59 = .ok (.iconst 1, 1) := by decide +kernel
theorem dX11_bake_60 : decode cX11_bake 60 = .ok (.dup2, 1) := by decide +kernel
theorem dX11_bake_61 : decode cX11_bake 61 = .ok (.iaload, 1) := by decide +kernel
theorem dX11_bake_62 : decode cX11_bake 62 = .ok (.iload_n 1, 1) := by decide +kernel
theorem dX11_bake_63 : decode cX11_bake 63 = .ok (.iadd, 1) := by decide +kernel
theorem dX11_bake_64 : decode cX11_bake 64 = .ok (.iastore, 1) := by decide +kernel
theorem dX11_bake_65 : decode cX11_bake 65 = .ok (.aload_n 0, 1) := by decide +kernel
theorem dX11_bake_66 : decode cX11_bake 66 = .ok (.getfield 66, 3) := by decide +kernel
theorem dX11_bake_69 : decode cX11_bake 69 = .ok (.getfield 226, 3) := by decide +kernel
theorem dX11_bake_72 : decode cX11_bake 72 = .ok (.iconst 1, 1) := by decide +kernel
theorem dX11_bake_73 : decode cX11_bake 73 = .ok (.iaload, 1) := by decide +kernel
theorem dX11_bake_74 : decode cX11_bake 74 = .ok (.ireturn, 1) := by decide +kernel
theorem dX11_daysCanBe_0 : decode cX11_daysCanBe 0 = .ok (.aload_n 0, 1) := by decide +kernel
theorem dX11_daysCanBe_1 : decode cX11_daysCanBe 1 = .ok (.invokevirtual 287, 3) := by decide +kernel
theorem dX11_daysCanBe_4 : decode cX11_daysCanBe 4 = .ok (.ifCond .eq 33, 3) := by decide +kernel
theorem dX11_daysCanBe_7 : decode cX11_daysCanBe 7 = .ok (.iload_n 1, 1) := by decide +kernel
theorem dX11_daysCanBe_8 : decode cX11_daysCanBe 8 = .ok (.iconst 1, 1) := by decide +kernel
theorem dX11_daysCanBe_9 : decode cX11_daysCanBe 9 = .ok (.if_icmp .lt 28, 3) := by decide +kernel
theorem dX11_daysCanBe_12 : decode cX11_daysCanBe 12 = .ok (.iload_n 1, 1) := by decide +kernel
theorem dX11_daysCanBe_13 : decode cX11_daysCanBe 13 = .ok (.bipush 100, 2) := by decide +kernel
theorem dX11_daysCanBe_15 : decode cX11_daysCanBe 15 = .ok (.if_icmp .gt 22, 3) := by decide +kernel
theorem dX11_daysCanBe_18 : decode cX11_daysCanBe 18 = .ok (.aload_n 0, 1) := by decide +kernel
theorem dX11_daysCanBe_19 : decode cX11_daysCanBe 19 = .ok (.getfield 66, 3) := by decide +kernel
theorem dX11_daysCanBe_22 : decode cX11_daysCanBe 22 = .ok (.getfield 184, 3) := by decide +kernel
theorem dX11_daysCanBe_25 : decode cX11_daysCanBe 25 = .ok (.iload_n 1, 1) := by decide +kernel
theorem dX11_daysCanBe_26 : decode cX11_daysCanBe 26 = .ok (.iadd, 1) := by decide +kernel
theorem dX11_daysCanBe_27 : decode cX11_daysCanBe 27 = .ok (.sipush 999, 3) := by decide +kernel
theorem dX11_daysCanBe_30 : decode cX11_daysCanBe 30 = .ok (.if_icmp .gt 7, 3) := by decide +kernel
theorem dX11_daysCanBe_33 : decode cX11_daysCanBe 33 = .ok (.iconst 1, 1) := by decide +kernel
theorem dX11_daysCanBe_34 : decode cX11_daysCanBe 34 = .ok (.goto 4, 3) := by decide +kernel
theorem dX11_daysCanBe_37 : decode cX11_daysCanBe 37 = .ok (.iconst 0, 1) := by decide +kernel
theorem dX11_daysCanBe_38 : decode cX11_daysCanBe 38 = .ok (.ireturn, 1) := by decide +kernel
theorem dX11_draw_0 : decode cX11_draw 0 = .ok (.aload_n 0, 1) := by decide +kernel
theorem dX11_draw_1 : decode cX11_draw 1 = .ok (.ldc2_w 406, 3) := by decide +kernel
theorem dX11_draw_4 : decode cX11_draw 4 = .ok (.aload_n 0, 1) := by decide +kernel
theorem dX11_draw_5 : decode cX11_draw 5 = .ok (.getfield 110, 3) := by decide +kernel
theorem dX11_draw_8 : decode cX11_draw 8 = .ok (.i2l, 1) := by decide +kernel
theorem dX11_draw_9 : decode cX11_draw 9 = .ok (.lmul, 1) := by decide +kernel
theorem dX11_draw_10 : decode cX11_draw 10 = .ok (.ldc2_w 408, 3) := by decide +kernel
theorem dX11_draw_13 : decode cX11_draw 13 = .ok (.ladd, 1) := by decide +kernel
theorem dX11_draw_14 : decode cX11_draw 14 = .ok (.ldc2_w 410, 3) := by decide +kernel
theorem dX11_draw_17 : decode cX11_draw 17 = .ok (.land, 1) := by decide +kernel
theorem dX11_draw_18 : decode cX11_draw 18 = .ok (.l2i, 1) := by decide +kernel
theorem dX11_draw_19 : decode cX11_draw 19 = .ok (.putfield 110, 3) := by decide +kernel
theorem dX11_draw_22 : decode cX11_draw 22 = .ok (.iload_n 1, 1) := by decide +kernel
theorem dX11_draw_23 : decode cX11_draw 23 = .ok (.ifCond .le 15, 3) := by decide +kernel
theorem dX11_draw_26 : decode cX11_draw 26 = .ok (.aload_n 0, 1) := by decide +kernel
theorem dX11_draw_27 : decode cX11_draw 27 = .ok (.getfield 110, 3) := by decide +kernel
theorem dX11_draw_30 : decode cX11_draw 30 = .ok (.bipush 64, 2) := by decide +kernel
theorem dX11_draw_32 : decode cX11_draw 32 = .ok (.idiv, 1) := by decide +kernel
theorem dX11_draw_33 : decode cX11_draw 33 = .ok (.iload_n 1, 1) := by decide +kernel
theorem dX11_draw_34 : decode cX11_draw 34 = .ok (.irem, 1) := by decide +kernel
theorem dX11_draw_35 : decode cX11_draw 35 = .ok (.goto 4, 3) := by decide +kernel
theorem dX11_draw_38 : decode cX11_draw 38 = .ok (.iconst 0, 1) := by decide +kernel
theorem dX11_draw_39 : decode cX11_draw 39 = .ok (.ireturn, 1) := by decide +kernel
theorem dX11_chance_0 : decode cX11_chance 0 = .ok (.aload_n 0, 1) := by decide +kernel
theorem dX11_chance_1 : decode cX11_chance 1 = .ok (.iload_n 1, 1) := by decide +kernel
theorem dX11_chance_2 : decode cX11_chance 2 = .ok (.invokevirtual 339, 3) := by decide +kernel
theorem dX11_chance_5 : decode cX11_chance 5 = .ok (.ifCond .ne 9, 3) := by decide +kernel
theorem dX11_chance_8 : decode cX11_chance 8 = .ok (.aload_n 0, 1) := by decide +kernel
theorem dX11_chance_9 : decode cX11_chance 9 = .ok (.iconst 3, 1) := by decide +kernel
theorem dX11_chance_10 : decode cX11_chance 10 = .ok (.invokevirtual 122, 3) := by decide +kernel
theorem dX11_chance_13 : decode cX11_chance 13 = .ok (.ireturn, 1) := by decide +kernel
theorem dX11_chance_14 : decode cX11_chance 14 = .ok (.aload_n 0, 1) := by decide +kernel
theorem dX11_chance_15 : decode cX11_chance 15 = .ok (.getfield 73, 3) := by decide +kernel
theorem dX11_chance_18 : decode cX11_chance 18 = .ok (.aload_n 0, 1) := by decide +kernel
theorem dX11_chance_19 : decode cX11_chance 19 = .ok (.getfield 66, 3) := by decide +kernel
theorem dX11_chance_22 : decode cX11_chance 22 = .ok (.invokevirtual 325, 3) := by decide +kernel
theorem dX11_chance_25 : decode cX11_chance 25 = .ok (.iconst 0, 1) := by decide +kernel
theorem dX11_chance_26 : decode cX11_chance 26 = .ok (.istore_n 2, 1) := by decide +kernel
theorem dX11_chance_27 : decode cX11_chance 27 = .ok (.iconst 0, 1) := by decide +kernel
theorem dX11_chance_28 : decode cX11_chance 28 = .ok (.istore_n 3, 1) := by decide +kernel
theorem dX11_chance_29 : decode cX11_chance 29 = .ok (.iload_n 3, 1) := by decide +kernel
theorem dX11_chance_30 : decode cX11_chance 30 = .ok (.iload_n 1, 1) := by decide +kernel
theorem dX11_chance_31 : decode cX11_chance 31 = .ok (.if_icmp .ge 63, 3) := by decide +kernel
theorem dX11_chance_34 : decode cX11_chance 34 = .ok (.aload_n 0, 1) := by decide +kernel
theorem dX11_chance_35 : decode cX11_chance 35 = .ok (.bipush 100, 2) := by decide +kernel
theorem dX11_chance_37 : decode cX11_chance 37 = .ok (.invokevirtual 351, 3) := by decide +kernel
theorem dX11_chance_40 : decode cX11_chance 40 = .ok (.aload_n 0, 1) := by decide +kernel
theorem dX11_chance_41 : decode cX11_chance 41 = .ok (.getfield 50, 3) := by decide +kernel
theorem dX11_chance_44 : decode cX11_chance 44 = .ok (.getfield 354, 3) := by decide +kernel
theorem dX11_chance_47 : decode cX11_chance 47 = .ok (.if_icmp .ge 29, 3) := by decide +kernel
theorem dX11_chance_50 : decode cX11_chance 50 = .ok (.aload_n 0, 1) := by decide +kernel
theorem dX11_chance_51 : decode cX11_chance 51 = .ok (.getfield 66, 3) := by decide +kernel
theorem dX11_chance_54 : decode cX11_chance 54 = .ok (.aload_n 0, 1) := by decide +kernel
theorem dX11_chance_55 : decode cX11_chance 55 = .ok (.aload_n 0, 1) := by decide +kernel
theorem dX11_chance_56 : decode cX11_chance 56 = .ok (.getfield 50, 3) := by decide +kernel
theorem dX11_chance_59 : decode cX11_chance 59 = .ok (.getfield 178, 3) := by decide +kernel
theorem dX11_chance_62 : decode cX11_chance 62 = .ok (.invokevirtual 351, 3) := by decide +kernel
theorem dX11_chance_65 : decode cX11_chance 65 = .ok (.iconst 1, 1) := by decide +kernel
theorem dX11_chance_66 : decode cX11_chance 66 = .ok (.iadd, 1) := by decide +kernel
theorem dX11_chance_67 : decode cX11_chance 67 = .ok (.invokevirtual 357, 3) := by decide +kernel
theorem dX11_chance_70 : decode cX11_chance 70 = .ok (.ifCond .eq 6, 3) := by decide +kernel
theorem dX11_chance_73 : decode cX11_chance 73 = .ok (.iinc 2 1, 3) := by decide +kernel
theorem dX11_chance_76 : decode cX11_chance 76 = .ok (.aload_n 0, 1) := by decide +kernel
theorem dX11_chance_77 : decode cX11_chance 77 = .ok (.getfield 80, 3) := by decide +kernel
theorem dX11_chance_80 : decode cX11_chance 80 = .ok (.aload_n 0, 1) := by decide +kernel
theorem dX11_chance_81 : decode cX11_chance 81 = .ok (.getfield 66, 3) := by decide +kernel
theorem dX11_chance_84 : decode cX11_chance 84 = .ok (.invokevirtual 342, 3) := by decide +kernel
theorem dX11_chance_87 : decode cX11_chance 87 = .ok (.pop, 1) := by decide +kernel
theorem dX11_chance_88 : decode cX11_chance 88 = .ok (.iinc 3 1, 3) := by decide +kernel
theorem dX11_chance_91 : decode cX11_chance 91 = .ok (.goto (-62), 3) := by decide +kernel
theorem dX11_chance_94 : decode cX11_chance 94 = .ok (.iload_n 2, 1) := by decide +kernel
theorem dX11_chance_95 : decode cX11_chance 95 = .ok (.ireturn, 1) := by decide +kernel
theorem dX11_isShare_0 : decode cX11_isShare 0 = .ok (.aload_n 0, 1) := by decide +kernel
theorem dX11_isShare_1 : decode cX11_isShare 1 = .ok (.invokevirtual 287, 3) := by decide +kernel
theorem dX11_isShare_4 : decode cX11_isShare 4 = .ok (.ifCond .eq 29, 3) := by decide +kernel
theorem dX11_isShare_7 : decode cX11_isShare 7 = .ok (.iload_n 1, 1) := by decide +kernel
theorem dX11_isShare_8 : decode cX11_isShare 8 = .ok (.iconst 1, 1) := by decide +kernel
theorem dX11_isShare_9 : decode cX11_isShare 9 = .ok (.if_icmp .lt 24, 3) := by decide +kernel
theorem dX11_isShare_12 : decode cX11_isShare 12 = .ok (.iload_n 1, 1) := by decide +kernel
theorem dX11_isShare_13 : decode cX11_isShare 13 = .ok (.bipush 99, 2) := by decide +kernel
theorem dX11_isShare_15 : decode cX11_isShare 15 = .ok (.if_icmp .gt 18, 3) := by decide +kernel
theorem dX11_isShare_18 : decode cX11_isShare 18 = .ok (.iload_n 2, 1) := by decide +kernel
theorem dX11_isShare_19 : decode cX11_isShare 19 = .ok (.iconst 1, 1) := by decide +kernel
theorem dX11_isShare_20 : decode cX11_isShare 20 = .ok (.if_icmp .lt 13, 3) := by decide +kernel
theorem dX11_isShare_23 : decode cX11_isShare 23 = .ok (.iload_n 2, 1) := by decide +kernel
theorem dX11_isShare_24 : decode cX11_isShare 24 = .ok (.bipush 99, 2) := by decide +kernel
theorem dX11_isShare_26 : decode cX11_isShare 26 = .ok (.if_icmp .gt 7, 3) := by decide +kernel
theorem dX11_isShare_29 : decode cX11_isShare 29 = .ok (.iconst 1, 1) := by decide +kernel
theorem dX11_isShare_30 : decode cX11_isShare 30 = .ok (.goto 4, 3) := by decide +kernel
theorem dX11_isShare_33 : decode cX11_isShare 33 = .ok (.iconst 0, 1) := by decide +kernel
theorem dX11_isShare_34 : decode cX11_isShare 34 = .ok (.ireturn, 1) := by decide +kernel
theorem dX11_writings_0 : decode cX11_writings 0 = .ok (.aload_n 0, 1) := by decide +kernel
theorem dX11_writings_1 : decode cX11_writings 1 = .ok (.iload_n 1, 1) := by decide +kernel
theorem dX11_writings_2 : decode cX11_writings 2 = .ok (.iload_n 2, 1) := by decide +kernel
theorem dX11_writings_3 : decode cX11_writings 3 = .ok (.invokevirtual 233, 3) := by decide +kernel
theorem dX11_writings_6 : decode cX11_writings 6 = .ok (.ifCond .eq 22, 3) := by decide +kernel
theorem dX11_writings_9 : decode cX11_writings 9 = .ok (.aload_n 0, 1) := by decide +kernel
theorem dX11_writings_10 : decode cX11_writings 10 = .ok (.getfield 59, 3) := by decide +kernel
theorem dX11_writings_13 : decode cX11_writings 13 = .ok (.aload_n 0, 1) := by decide +kernel
theorem dX11_writings_14 : decode cX11_writings 14 = .ok (.getfield 59, 3) := by decide +kernel
theorem dX11_writings_17 : decode cX11_writings 17 = .ok (.iload_n 1, 1) := by decide +kernel
theorem dX11_writings_18 : decode cX11_writings 18 = .ok (.iload_n 2, 1) := by decide +kernel
theorem dX11_writings_19 : decode cX11_writings 19 = .ok (.invokevirtual 155, 3) := by decide +kernel
theorem dX11_writings_22 : decode cX11_writings 22 = .ok (.invokevirtual 159, 3) := by decide +kernel
theorem dX11_writings_25 : decode cX11_writings 25 = .ok (.goto 4, 3) := by decide +kernel
theorem dX11_writings_28 : decode cX11_writings 28 = .ok (.iconst (-1), 1) := by decide +kernel
theorem dX11_writings_29 : decode cX11_writings 29 = .ok (.ireturn, 1) := by decide +kernel
theorem dX11_priceOf_0 : decode cX11_priceOf 0 = .ok (.aload_n 0, 1) := by decide +kernel
theorem dX11_priceOf_1 : decode cX11_priceOf 1 = .ok (.getfield 100, 3) := by decide +kernel
theorem dX11_priceOf_4 : decode cX11_priceOf 4 = .ok (.iconst 2, 1) := by decide +kernel
theorem dX11_priceOf_5 : decode cX11_priceOf 5 = .ok (.aload_n 0, 1) := by decide +kernel
theorem dX11_priceOf_6 : decode cX11_priceOf 6 = .ok (.getfield 66, 3) := by decide +kernel
theorem dX11_priceOf_9 : decode cX11_priceOf 9 = .ok (.getfield 184, 3) := by decide +kernel
theorem dX11_priceOf_12 : decode cX11_priceOf 12 = .ok (.iastore, 1) := by decide +kernel
theorem dX11_priceOf_13 : decode cX11_priceOf 13 = .ok (.iconst 0, 1) := by decide +kernel
theorem dX11_priceOf_14 : decode cX11_priceOf 14 = .ok (.istore_n 2, 1) := by decide +kernel
theorem dX11_priceOf_15 : decode cX11_priceOf 15 = .ok (.lconst 0, 1) := by decide +kernel
theorem dX11_priceOf_16 : decode cX11_priceOf 16 = .ok (.lstore_n 3, 1) := by decide +kernel
theorem dX11_priceOf_17 : decode cX11_priceOf 17 = .ok (.iconst 1, 1) := by decide +kernel
theorem dX11_priceOf_18 : decode cX11_priceOf 18 = .ok (.istore 5, 2) := by decide +kernel
theorem dX11_priceOf_20 : decode cX11_priceOf 20 = .ok (.iload 5, 2) := by decide +kernel
theorem dX11_priceOf_22 : decode cX11_priceOf 22 = .ok (.aload_n 0, 1) := by decide +kernel
theorem dX11_priceOf_23 : decode cX11_priceOf 23 = .ok (.getfield 50, 3) := by decide +kernel
theorem dX11_priceOf_26 : decode cX11_priceOf 26 = .ok (.getfield 178, 3) := by decide +kernel
theorem dX11_priceOf_29 : decode cX11_priceOf 29 = .ok (.if_icmp .gt 73, 3) := by decide +kernel
theorem dX11_priceOf_32 : decode cX11_priceOf 32 = .ok (.iload_n 1, 1) := by decide +kernel
theorem dX11_priceOf_33 : decode cX11_priceOf 33 = .ok (.iload 5, 2) := by decide +kernel
theorem dX11_priceOf_35 : decode cX11_priceOf 35 = .ok (.iconst 1, 1) := by decide +kernel
theorem dX11_priceOf_36 : decode cX11_priceOf 36 = .ok (.isub, 1) := by decide +kernel
theorem dX11_priceOf_37 : decode cX11_priceOf 37 = .ok (.ishr, 1) := by decide +kernel
theorem dX11_priceOf_38 : decode cX11_priceOf 38 = .ok (.iconst 1, 1) := by decide +kernel
theorem dX11_priceOf_39 : decode cX11_priceOf 39 = .ok (.iand, 1) := by decide +kernel
theorem dX11_priceOf_40 : decode cX11_priceOf 40 = .ok (.iconst 1, 1) := by decide +kernel
theorem dX11_priceOf_41 : decode cX11_priceOf 41 = .ok (.if_icmp .ne 55, 3) := by decide +kernel
theorem dX11_priceOf_44 : decode cX11_priceOf 44 = .ok (.aload_n 0, 1) := by decide +kernel
theorem dX11_priceOf_45 : decode cX11_priceOf 45 = .ok (.getfield 100, 3) := by decide +kernel
theorem dX11_priceOf_48 : decode cX11_priceOf 48 = .ok (.iconst 0, 1) := by decide +kernel
theorem dX11_priceOf_49 : decode cX11_priceOf 49 = .ok (.iload 5, 2) := by decide +kernel
theorem dX11_priceOf_51 : decode cX11_priceOf 51 = .ok (.iastore, 1) := by decide +kernel
theorem dX11_priceOf_52 : decode cX11_priceOf 52 = .ok (.aload_n 0, 1) := by decide +kernel
theorem dX11_priceOf_53 : decode cX11_priceOf 53 = .ok (.getfield 100, 3) := by decide +kernel
theorem dX11_priceOf_56 : decode cX11_priceOf 56 = .ok (.iconst 1, 1) := by decide +kernel
theorem dX11_priceOf_57 : decode cX11_priceOf 57 = .ok (.aload_n 0, 1) := by decide +kernel
theorem dX11_priceOf_58 : decode cX11_priceOf 58 = .ok (.getfield 66, 3) := by decide +kernel
theorem dX11_priceOf_61 : decode cX11_priceOf 61 = .ok (.getfield 226, 3) := by decide +kernel
theorem dX11_priceOf_64 : decode cX11_priceOf 64 = .ok (.iload 5, 2) := by decide +kernel
theorem dX11_priceOf_66 : decode cX11_priceOf 66 = .ok (.iaload, 1) := by decide +kernel
theorem dX11_priceOf_67 : decode cX11_priceOf 67 = .ok (.iastore, 1) := by decide +kernel
theorem dX11_priceOf_68 : decode cX11_priceOf 68 = .ok (.aload_n 0, 1) := by decide +kernel
theorem dX11_priceOf_69 : decode cX11_priceOf 69 = .ok (.getfield 100, 3) := by decide +kernel
theorem dX11_priceOf_72 : decode cX11_priceOf 72 = .ok (.iconst 3, 1) := by decide +kernel
theorem dX11_priceOf_73 : decode cX11_priceOf 73 = .ok (.iload_n 2, 1) := by decide +kernel
theorem dX11_priceOf_74 : decode cX11_priceOf 74 = .ok (.iastore, 1) := by decide +kernel
theorem dX11_priceOf_75 : decode cX11_priceOf 75 = .ok (.lload_n 3, 1) := by decide +kernel
theorem dX11_priceOf_76 : decode cX11_priceOf 76 = .ok (.aload_n 0, 1) := by decide +kernel
theorem dX11_priceOf_77 : decode cX11_priceOf 77 = .ok (.getfield 50, 3) := by decide +kernel
theorem dX11_priceOf_80 : decode cX11_priceOf 80 = .ok (.getfield 412, 3) := by decide +kernel
theorem dX11_priceOf_83 : decode cX11_priceOf 83 = .ok (.aload_n 0, 1) := by decide +kernel
theorem dX11_priceOf_84 : decode cX11_priceOf 84 = .ok (.getfield 100, 3) := by decide +kernel
theorem dX11_priceOf_87 : decode cX11_priceOf 87 = .ok (.invokevirtual 415, 3) := by decide +kernel
theorem dX11_priceOf_90 : decode cX11_priceOf 90 = .ok (.i2l, 1) := by decide +kernel
theorem dX11_priceOf_91 : decode cX11_priceOf 91 = .ok (.ladd, 1) := by decide +kernel
theorem dX11_priceOf_92 : decode cX11_priceOf 92 = .ok (.lstore_n 3, 1) := by decide +kernel
theorem dX11_priceOf_93 : decode cX11_priceOf 93 = .ok (.iinc 2 1, 3) := by decide +kernel
theorem dX11_priceOf_96 : decode cX11_priceOf 96 = .ok (.iinc 5 1, 3) := by decide +kernel
theorem dX11_priceOf_99 : decode cX11_priceOf 99 = .ok (.goto (-79), 3) := by decide +kernel
theorem dX11_priceOf_102 : decode cX11_priceOf 102 = .ok (.lload_n 3, 1) := by decide +kernel
theorem dX11_priceOf_103 : decode cX11_priceOf 103 = .ok (.lreturn, 1) := by decide +kernel
theorem dX11_cheapest_0 : decode cX11_cheapest 0 = .ok (.aload_n 0, 1) := by decide +kernel
theorem dX11_cheapest_1 : decode cX11_cheapest 1 = .ok (.iload_n 1, 1) := by decide +kernel
theorem dX11_cheapest_2 : decode cX11_cheapest 2 = .ok (.iload_n 2, 1) := by decide +kernel
theorem dX11_cheapest_3 : decode cX11_cheapest 3 = .ok (.invokevirtual 237, 3) := by decide +kernel
theorem dX11_cheapest_6 : decode cX11_cheapest 6 = .ok (.istore 4, 2) := by decide +kernel
theorem dX11_cheapest_8 : decode cX11_cheapest 8 = .ok (.iload 4, 2) := by decide +kernel
theorem dX11_cheapest_10 : decode cX11_cheapest 10 = .ok (.ifCond .le 12, 3) := by decide +kernel
theorem dX11_cheapest_13 : decode cX11_cheapest 13 = .ok (.iload_n 3, 1) := by decide +kernel
theorem dX11_cheapest_14 : decode cX11_cheapest 14 = .ok (.ifCond .lt 8, 3) := by decide +kernel
theorem dX11_cheapest_17 : decode cX11_cheapest 17 = .ok (.iload_n 3, 1) := by decide +kernel
theorem dX11_cheapest_18 : decode cX11_cheapest 18 = .ok (.iconst 1, 1) := by decide +kernel
theorem dX11_cheapest_19 : decode cX11_cheapest 19 = .ok (.if_icmp .le 7, 3) := by decide +kernel
theorem dX11_cheapest_22 : decode cX11_cheapest 22 = .ok (.ldc2_w 246, 3) := by decide +kernel
theorem dX11_cheapest_25 : decode cX11_cheapest 25 = .ok (.lreturn, 1) := by decide +kernel
theorem dX11_cheapest_26 : decode cX11_cheapest 26 = .ok (.iconst 0, 1) := by decide +kernel
theorem dX11_cheapest_27 : decode cX11_cheapest 27 = .ok (.istore 5, 2) := by decide +kernel
theorem dX11_cheapest_29 : decode cX11_cheapest 29 = .ok (.aload_n 0, 1) := by decide +kernel
theorem dX11_cheapest_30 : decode cX11_cheapest 30 = .ok (.aload_n 0, 1) := by decide +kernel
theorem dX11_cheapest_31 : decode cX11_cheapest 31 = .ok (.getfield 59, 3) := by decide +kernel
theorem dX11_cheapest_34 : decode cX11_cheapest 34 = .ok (.getfield 163, 3) := by decide +kernel
theorem dX11_cheapest_37 : decode cX11_cheapest 37 = .ok (.iconst 0, 1) := by decide +kernel
theorem dX11_cheapest_38 : decode cX11_cheapest 38 = .ok (.iaload, 1) := by decide +kernel
theorem dX11_cheapest_39 : decode cX11_cheapest 39 = .ok (.invokevirtual 248, 3) := by decide +kernel
theorem dX11_cheapest_42 : decode cX11_cheapest 42 = .ok (.lstore 6, 2) := by decide +kernel
theorem dX11_cheapest_44 : decode cX11_cheapest 44 = .ok (.iconst 1, 1) := by decide +kernel
theorem dX11_cheapest_45 : decode cX11_cheapest 45 = .ok (.istore 8, 2) := by decide +kernel
theorem dX11_cheapest_47 : decode cX11_cheapest 47 = .ok (.iload 8, 2) := by decide +kernel
theorem dX11_cheapest_49 : decode cX11_cheapest 49 = .ok (.iload 4, 2) := by decide +kernel
theorem dX11_cheapest_51 : decode cX11_cheapest 51 = .ok (.if_icmp .ge 41, 3) := by decide +kernel
theorem dX11_cheapest_54 : decode cX11_cheapest 54 = .ok (.aload_n 0, 1) := by decide +kernel
theorem dX11_cheapest_55 : decode cX11_cheapest 55 = .ok (.aload_n 0, 1) := by decide +kernel
theorem dX11_cheapest_56 : decode cX11_cheapest 56 = .ok (.getfield 59, 3) := by decide +kernel
theorem dX11_cheapest_59 : decode cX11_cheapest 59 = .ok (.getfield 163, 3) := by decide +kernel
theorem dX11_cheapest_62 : decode cX11_cheapest 62 = .ok (.iload 8, 2) := by decide +kernel
theorem dX11_cheapest_64 : decode cX11_cheapest 64 = .ok (.iaload, 1) := by decide +kernel
theorem dX11_cheapest_65 : decode cX11_cheapest 65 = .ok (.invokevirtual 248, 3) := by decide +kernel
theorem dX11_cheapest_68 : decode cX11_cheapest 68 = .ok (.lstore 9, 2) := by decide +kernel
theorem dX11_cheapest_70 : decode cX11_cheapest 70 = .ok (.lload 9, 2) := by decide +kernel
theorem dX11_cheapest_72 : decode cX11_cheapest 72 = .ok (.lload 6, 2) := by decide +kernel
theorem dX11_cheapest_74 : decode cX11_cheapest 74 = .ok (.lcmp, 1) := by decide +kernel
theorem dX11_cheapest_75 : decode cX11_cheapest 75 = .ok (.ifCond .ge 11, 3) := by decide +kernel
theorem dX11_cheapest_78 : decode cX11_cheapest 78 = .ok (.lload 9, 2) := by decide +kernel
theorem dX11_cheapest_80 : decode cX11_cheapest 80 = .ok (.lstore 6, 2) := by decide +kernel
theorem dX11_cheapest_82 : decode cX11_cheapest 82 = .ok (.iload 8, 2) := by decide +kernel
theorem dX11_cheapest_84 : decode cX11_cheapest 84 = .ok (.istore 5, 2) := by decide +kernel
theorem dX11_cheapest_86 : decode cX11_cheapest 86 = .ok (.iinc 8 1, 3) := by decide +kernel
theorem dX11_cheapest_89 : decode cX11_cheapest 89 = .ok (.goto (-42), 3) := by decide +kernel
theorem dX11_cheapest_92 : decode cX11_cheapest 92 = .ok (.iload_n 3, 1) := by decide +kernel
theorem dX11_cheapest_93 : decode cX11_cheapest 93 = .ok (.ifCond .ne 17, 3) := by decide +kernel
theorem dX11_cheapest_96 : decode cX11_cheapest 96 = .ok (.aload_n 0, 1) := by decide +kernel
theorem dX11_cheapest_97 : decode cX11_cheapest 97 = .ok (.getfield 59, 3) := by decide +kernel
theorem dX11_cheapest_100 : decode cX11_cheapest 100 = .ok (.getfield 163, 3) := by decide +kernel
theorem dX11_cheapest_103 : decode cX11_cheapest 103 = .ok (.iload 5, 2) := by decide +kernel
theorem dX11_cheapest_105 : decode cX11_cheapest 105 = .ok (.iaload, 1) := by decide +kernel
theorem dX11_cheapest_106 : decode cX11_cheapest 106 = .ok (.i2l, 1) := by decide +kernel
theorem dX11_cheapest_107 : decode cX11_cheapest 107 = .ok (.goto 5, 3) := by decide +kernel
theorem dX11_cheapest_110 : decode cX11_cheapest 110 = .ok (.lload 6, 2) := by decide +kernel
theorem dX11_cheapest_112 : decode cX11_cheapest 112 = .ok (.lreturn, 1) := by decide +kernel
theorem dX11_isSize_0 : decode cX11_isSize 0 = .ok (.iload_n 1, 1) := by decide +kernel
theorem dX11_isSize_1 : decode cX11_isSize 1 = .ok (.iconst 1, 1) := by decide +kernel
theorem dX11_isSize_2 : decode cX11_isSize 2 = .ok (.if_icmp .lt 18, 3) := by decide +kernel
theorem dX11_isSize_5 : decode cX11_isSize 5 = .ok (.iload_n 1, 1) := by decide +kernel
theorem dX11_isSize_6 : decode cX11_isSize 6 = .ok (.aload_n 0, 1) := by decide +kernel
theorem dX11_isSize_7 : decode cX11_isSize 7 = .ok (.getfield 50, 3) := by decide +kernel
theorem dX11_isSize_10 : decode cX11_isSize 10 = .ok (.getfield 178, 3) := by decide +kernel
theorem dX11_isSize_13 : decode cX11_isSize 13 = .ok (.if_icmp .gt 7, 3) := by decide +kernel
theorem dX11_isSize_16 : decode cX11_isSize 16 = .ok (.iconst 1, 1) := by decide +kernel
theorem dX11_isSize_17 : decode cX11_isSize 17 = .ok (.goto 4, 3) := by decide +kernel
theorem dX11_isSize_20 : decode cX11_isSize 20 = .ok (.iconst 0, 1) := by decide +kernel
theorem dX11_isSize_21 : decode cX11_isSize 21 = .ok (.ireturn, 1) := by decide +kernel
theorem dX11_cut_0 : decode cX11_cut 0 = .ok (.iload_n 1, 1) := by decide +kernel
theorem dX11_cut_1 : decode cX11_cut 1 = .ok (.iconst 2, 1) := by decide +kernel
theorem dX11_cut_2 : decode cX11_cut 2 = .ok (.if_icmp .lt 41, 3) := by decide +kernel
theorem dX11_cut_5 : decode cX11_cut 5 = .ok (.aload_n 0, 1) := by decide +kernel
theorem dX11_cut_6 : decode cX11_cut 6 = .ok (.iload_n 1, 1) := by decide +kernel
theorem dX11_cut_7 : decode cX11_cut 7 = .ok (.invokevirtual 223, 3) := by decide +kernel
theorem dX11_cut_10 : decode cX11_cut 10 = .ok (.ifCond .eq 33, 3) := by decide +kernel
theorem dX11_cut_13 : decode cX11_cut 13 = .ok (.aload_n 0, 1) := by decide +kernel
theorem dX11_cut_14 : decode cX11_cut 14 = .ok (.getfield 66, 3) := by decide +kernel
theorem dX11_cut_17 : decode cX11_cut 17 = .ok (.getfield 226, 3) := by decide +kernel
theorem dX11_cut_20 : decode cX11_cut 20 = .ok (.iconst 1, 1) := by decide +kernel
theorem dX11_cut_21 : decode cX11_cut 21 = .ok (.iaload, 1) := by decide +kernel
theorem dX11_cut_22 : decode cX11_cut 22 = .ok (.iconst 1, 1) := by decide +kernel
theorem dX11_cut_23 : decode cX11_cut 23 = .ok (.if_icmp .lt 20, 3) := by decide +kernel
theorem dX11_cut_26 : decode cX11_cut 26 = .ok (.aload_n 0, 1) := by decide +kernel
theorem dX11_cut_27 : decode cX11_cut 27 = .ok (.getfield 66, 3) := by decide +kernel
theorem dX11_cut_30 : decode cX11_cut 30 = .ok (.getfield 226, 3) := by decide +kernel
theorem dX11_cut_33 : decode cX11_cut 33 = .ok (.iload_n 1, 1) := by decide +kernel
theorem dX11_cut_34 : decode cX11_cut 34 = .ok (.iaload, 1) := by decide +kernel
theorem dX11_cut_35 : decode cX11_cut 35 = .ok (.iload_n 1, 1) := by decide +kernel
theorem dX11_cut_36 : decode cX11_cut 36 = .ok (.iadd, 1) := by decide +kernel
theorem dX11_cut_37 : decode cX11_cut 37 = .ok (.sipush 999, 3) := by decide +kernel
theorem dX11_cut_40 : decode cX11_cut 40 = .ok (.if_icmp .le 9, 3) := by decide +kernel
theorem dX11_cut_43 : decode cX11_cut 43 = .ok (.aload_n 0, 1) := by decide +kernel
theorem dX11_cut_44 : decode cX11_cut 44 = .ok (.iconst 2, 1) := by decide +kernel
theorem dX11_cut_45 : decode cX11_cut 45 = .ok (.invokevirtual 122, 3) := by decide +kernel
theorem dX11_cut_48 : decode cX11_cut 48 = .ok (.ireturn, 1) := by decide +kernel
theorem dX11_cut_49 : decode cX11_cut 49 = .ok (.aload_n 0, 1) := by decide +kernel
theorem dX11_cut_50 : decode cX11_cut 50 = .ok (.getfield 73, 3) := by decide +kernel
theorem dX11_cut_53 : decode cX11_cut 53 = .ok (.aload_n 0, 1) := by decide +kernel
theorem dX11_cut_54 : decode cX11_cut 54 = .ok (.getfield 66, 3) := by decide +kernel
theorem dX11_cut_57 : decode cX11_cut 57 = .ok (.invokevirtual 325, 3) := by decide +kernel
theorem dX11_cut_60 : decode cX11_cut 60 = .ok (.aload_n 0, 1) := by decide +kernel
theorem dX11_cut_61 : decode cX11_cut 61 = .ok (.getfield 66, 3) := by decide +kernel
theorem dX11_cut_64 : decode cX11_cut 64 = .ok (.getfield 226, 3) := by decide +kernel
theorem dX11_cut_67 : decode cX11_cut 67 = .ok (.iconst 1, 1) := by decide +kernel
theorem dX11_cut_68 : decode cX11_cut 68 = .ok (.dup2, 1) := by decide +kernel
theorem dX11_cut_69 : decode cX11_cut 69 = .ok (.iaload, 1) := by decide +kernel
theorem dX11_cut_70 : decode cX11_cut 70 = .ok (.iconst 1, 1) := by decide +kernel
theorem dX11_cut_71 : decode cX11_cut 71 = .ok (.isub, 1) := by decide +kernel
theorem dX11_cut_72 : decode cX11_cut 72 = .ok (.iastore, 1) := by decide +kernel
theorem dX11_cut_73 : decode cX11_cut 73 = .ok (.aload_n 0, 1) := by decide +kernel
theorem dX11_cut_74 : decode cX11_cut 74 = .ok (.getfield 66, 3) := by decide +kernel
theorem dX11_cut_77 : decode cX11_cut 77 = .ok (.getfield 226, 3) := by decide +kernel
theorem dX11_cut_80 : decode cX11_cut 80 = .ok (.iload_n 1, 1) := by decide +kernel
theorem dX11_cut_81 : decode cX11_cut 81 = .ok (.dup2, 1) := by decide +kernel
theorem dX11_cut_82 : decode cX11_cut 82 = .ok (.iaload, 1) := by decide +kernel
theorem dX11_cut_83 : decode cX11_cut 83 = .ok (.iload_n 1, 1) := by decide +kernel
theorem dX11_cut_84 : decode cX11_cut 84 = .ok (.iadd, 1) := by decide +kernel
theorem dX11_cut_85 : decode cX11_cut 85 = .ok (.iastore, 1) := by decide +kernel
theorem dX11_cut_86 : decode cX11_cut 86 = .ok (.aload_n 0, 1) := by decide +kernel
theorem dX11_cut_87 : decode cX11_cut 87 = .ok (.getfield 66, 3) := by decide +kernel
theorem dX11_cut_90 : decode cX11_cut 90 = .ok (.getfield 226, 3) := by decide +kernel
theorem dX11_cut_93 : decode cX11_cut 93 = .ok (.iload_n 1, 1) := by decide +kernel
theorem dX11_cut_94 : decode cX11_cut 94 = .ok (.iaload, 1) := by decide +kernel
theorem dX11_cut_95 : decode cX11_cut 95 = .ok (.ireturn, 1) := by decide +kernel
theorem dX11_cuts_0 : decode cX11_cuts 0 = .ok (.aload_n 0, 1) := by decide +kernel
theorem dX11_cuts_1 : decode cX11_cuts 1 = .ok (.invokevirtual 287, 3) := by decide +kernel
theorem dX11_cuts_4 : decode cX11_cuts 4 = .ok (.ifCond .eq 16, 3) := by decide +kernel
theorem dX11_cuts_7 : decode cX11_cuts 7 = .ok (.aload_n 0, 1) := by decide +kernel
theorem dX11_cuts_8 : decode cX11_cuts 8 = .ok (.getfield 66, 3) := by decide +kernel
theorem dX11_cuts_11 : decode cX11_cuts 11 = .ok (.getfield 184, 3) := by decide +kernel
theorem dX11_cuts_14 : decode cX11_cuts 14 = .ok (.sipush 999, 3) := by decide +kernel
theorem dX11_cuts_17 : decode cX11_cuts 17 = .ok (.if_icmp .lt 5, 3) := by decide +kernel
theorem dX11_cuts_20 : decode cX11_cuts 20 = .ok (.iconst (-1), 1) := by decide +kernel
theorem dX11_cuts_21 : decode cX11_cuts 21 = .ok (.ireturn, 1) := by decide +kernel
theorem dX11_cuts_22 : decode cX11_cuts 22 = .ok (.iload_n 1, 1) := by decide +kernel
theorem dX11_cuts_23 : decode cX11_cuts 23 = .ok (.iconst (-1), 1) := by decide +kernel
theorem dX11_cuts_24 : decode cX11_cuts 24 = .ok (.if_icmp .lt 8, 3) := by decide +kernel
theorem dX11_cuts_27 : decode cX11_cuts 27 = .ok (.iload_n 1, 1) := by decide +kernel
theorem dX11_cuts_28 : decode cX11_cuts 28 = .ok (.iconst 3, 1) := by decide +kernel
theorem dX11_cuts_29 : decode cX11_cuts 29 = .ok (.if_icmp .lt 5, 3) := by decide +kernel
theorem dX11_cuts_32 : decode cX11_cuts 32 = .ok (.iconst (-1), 1) := by decide +kernel
theorem dX11_cuts_33 : decode cX11_cuts 33 = .ok (.ireturn, 1) := by decide +kernel
theorem dX11_cuts_34 : decode cX11_cuts 34 = .ok (.aload_n 0, 1) := by decide +kernel
theorem dX11_cuts_35 : decode cX11_cuts 35 = .ok (.getfield 89, 3) := by decide +kernel
theorem dX11_cuts_38 : decode cX11_cuts 38 = .ok (.invokevirtual 291, 3) := by decide +kernel
theorem dX11_cuts_41 : decode cX11_cuts 41 = .ok (.istore_n 2, 1) := by decide +kernel
theorem dX11_cuts_42 : decode cX11_cuts 42 = .ok (.iload_n 1, 1) := by decide +kernel
theorem dX11_cuts_43 : decode cX11_cuts 43 = .ok (.iconst (-1), 1) := by decide +kernel
theorem dX11_cuts_44 : decode cX11_cuts 44 = .ok (.if_icmp .ne 5, 3) := by decide +kernel
theorem dX11_cuts_47 : decode cX11_cuts 47 = .ok (.iload_n 2, 1) := by decide +kernel
theorem dX11_cuts_48 : decode cX11_cuts 48 = .ok (.ireturn, 1) := by decide +kernel
theorem dX11_cuts_49 : decode cX11_cuts 49 = .ok (.iload_n 1, 1) := by decide +kernel
theorem dX11_cuts_50 : decode cX11_cuts 50 = .ok (.iload_n 2, 1) := by decide +kernel
theorem dX11_cuts_51 : decode cX11_cuts 51 = .ok (.if_icmp .ge 15, 3) := by decide +kernel
theorem dX11_cuts_54 : decode cX11_cuts 54 = .ok (.aload_n 0, 1) := by decide +kernel
theorem dX11_cuts_55 : decode cX11_cuts 55 = .ok (.getfield 89, 3) := by decide +kernel
theorem dX11_cuts_58 : decode cX11_cuts 58 = .ok (.getfield 294, 3) := by decide +kernel
theorem dX11_cuts_61 : decode cX11_cuts 61 = .ok (.iload_n 1, 1) := by decide +kernel
theorem dX11_cuts_62 : decode cX11_cuts 62 = .ok (.iaload, 1) := by decide +kernel
theorem dX11_cuts_63 : decode cX11_cuts 63 = .ok (.goto 4, 3) := by decide +kernel
theorem dX11_cuts_66 : decode cX11_cuts 66 = .ok (.iconst (-1), 1) := by decide +kernel
theorem dX11_cuts_67 : decode cX11_cuts 67 = .ok (.ireturn, 1) := by decide +kernel
theorem dX11_days_0 : decode cX11_days 0 = .ok (.aload_n 0, 1) := by decide +kernel
theorem dX11_days_1 : decode cX11_days 1 = .ok (.iload_n 1, 1) := by decide +kernel
theorem dX11_days_2 : decode cX11_days 2 = .ok (.invokevirtual 339, 3) := by decide +kernel
theorem dX11_days_5 : decode cX11_days 5 = .ok (.ifCond .ne 9, 3) := by decide +kernel
theorem dX11_days_8 : decode cX11_days 8 = .ok (.aload_n 0, 1) := by decide +kernel
theorem dX11_days_9 : decode cX11_days 9 = .ok (.iconst 3, 1) := by decide +kernel
theorem dX11_days_10 : decode cX11_days 10 = .ok (.invokevirtual 122, 3) := by decide +kernel
theorem dX11_days_13 : decode cX11_days 13 = .ok (.ireturn, 1) := by decide +kernel
theorem dX11_days_14 : decode cX11_days 14 = .ok (.aload_n 0, 1) := by decide +kernel
theorem dX11_days_15 : decode cX11_days 15 = .ok (.getfield 73, 3) := by decide +kernel
theorem dX11_days_18 : decode cX11_days 18 = .ok (.aload_n 0, 1) := by decide +kernel
theorem dX11_days_19 : decode cX11_days 19 = .ok (.getfield 66, 3) := by decide +kernel
theorem dX11_days_22 : decode cX11_days 22 = .ok (.invokevirtual 325, 3) := by decide +kernel
theorem dX11_days_25 : decode cX11_days 25 = .ok (.iconst 0, 1) := by decide +kernel
theorem dX11_days_26 : decode cX11_days 26 = .ok (.istore_n 2, 1) := by decide +kernel
theorem dX11_days_27 : decode cX11_days 27 = .ok (.iconst 0, 1) := by decide +kernel
theorem dX11_days_28 : decode cX11_days 28 = .ok (.istore_n 3, 1) := by decide +kernel
theorem dX11_days_29 : decode cX11_days 29 = .ok (.iload_n 3, 1) := by decide +kernel
theorem dX11_days_30 : decode cX11_days 30 = .ok (.iload_n 1, 1) := by decide +kernel
theorem dX11_days_31 : decode cX11_days 31 = .ok (.if_icmp .ge 26, 3) := by decide +kernel
theorem dX11_days_34 : decode cX11_days 34 = .ok (.iload_n 2, 1) := by decide +kernel
theorem dX11_days_35 : decode cX11_days 35 = .ok (.aload_n 0, 1) := by decide +kernel
theorem dX11_days_36 : decode cX11_days 36 = .ok (.getfield 80, 3) := by decide +kernel
theorem dX11_days_39 : decode cX11_days 39 = .ok (.aload_n 0, 1) := by decide +kernel
theorem dX11_days_40 : decode cX11_days 40 = .ok (.getfield 66, 3) := by decide +kernel
theorem dX11_days_43 : decode cX11_days 43 = .ok (.invokevirtual 342, 3) := by decide +kernel
theorem dX11_days_46 : decode cX11_days 46 = .ok (.invokestatic 346, 3) := by decide +kernel
theorem dX11_days_49 : decode cX11_days 49 = .ok (.iadd, 1) := by decide +kernel
theorem dX11_days_50 : decode cX11_days 50 = .ok (.istore_n 2, 1) := by decide +kernel
theorem dX11_days_51 : decode cX11_days 51 = .ok (.iinc 3 1, 3) := by decide +kernel
theorem dX11_days_54 : decode cX11_days 54 = .ok (.goto (-25), 3) := by decide +kernel
theorem dX11_days_57 : decode cX11_days 57 = .ok (.iload_n 2, 1) := by decide +kernel
theorem dX11_days_58 : decode cX11_days 58 = .ok (.ireturn, 1) := by decide +kernel
theorem dX11_end_0 : decode cX11_end 0 = .ok (.iload_n 1, 1) := by decide +kernel
theorem dX11_end_1 : decode cX11_end 1 = .ok (.ifCond .lt 14, 3) := by decide +kernel
theorem dX11_end_4 : decode cX11_end 4 = .ok (.iload_n 1, 1) := by decide +kernel
theorem dX11_end_5 : decode cX11_end 5 = .ok (.aload_n 0, 1) := by decide +kernel
theorem dX11_end_6 : decode cX11_end 6 = .ok (.getfield 16, 3) := by decide +kernel
theorem dX11_end_9 : decode cX11_end 9 = .ok (.getfield 119, 3) := by decide +kernel
theorem dX11_end_12 : decode cX11_end 12 = .ok (.if_icmp .le 11, 3) := by decide +kernel
theorem dX11_end_15 : decode cX11_end 15 = .ok (.aload_n 0, 1) := by decide +kernel
theorem dX11_end_16 : decode cX11_end 16 = .ok (.iconst 0, 1) := by decide +kernel
theorem dX11_end_17 : decode cX11_end 17 = .ok (.invokevirtual 122, 3) := by decide +kernel
theorem dX11_end_20 : decode cX11_end 20 = .ok (.pop, 1) := by decide +kernel
theorem dX11_end_21 : decode cX11_end 21 = .ok (.iconst 0, 1) := by decide +kernel
theorem dX11_end_22 : decode cX11_end 22 = .ok (.ireturn, 1) := by decide +kernel
theorem dX11_end_23 : decode cX11_end 23 = .ok (.aload_n 0, 1) := by decide +kernel
theorem dX11_end_24 : decode cX11_end 24 = .ok (.getfield 16, 3) := by decide +kernel
theorem dX11_end_27 : decode cX11_end 27 = .ok (.iload_n 1, 1) := by decide +kernel
theorem dX11_end_28 : decode cX11_end 28 = .ok (.putfield 119, 3) := by decide +kernel
theorem dX11_end_31 : decode cX11_end 31 = .ok (.iconst 1, 1) := by decide +kernel
theorem dX11_end_32 : decode cX11_end 32 = .ok (.ireturn, 1) := by decide +kernel
theorem dX11_fault_0 : decode cX11_fault 0 = .ok (.iload_n 1, 1) := by decide +kernel
theorem dX11_fault_1 : decode cX11_fault 1 = .ok (.ifCond .ne 8, 3) := by decide +kernel
theorem dX11_fault_4 : decode cX11_fault 4 = .ok (.aload_n 0, 1) := by decide +kernel
theorem dX11_fault_5 : decode cX11_fault 5 = .ok (.getfield 113, 3) := by decide +kernel
theorem dX11_fault_8 : decode cX11_fault 8 = .ok (.ireturn, 1) := by decide +kernel
theorem dX11_fault_9 : decode cX11_fault 9 = .ok (.iload_n 1, 1) := by decide +kernel
theorem dX11_fault_10 : decode cX11_fault 10 = .ok (.iconst 1, 1) := by decide +kernel
theorem dX11_fault_11 : decode cX11_fault 11 = .ok (.if_icmp .ne 10, 3) := by decide +kernel
theorem dX11_fault_14 : decode cX11_fault 14 = .ok (.aload_n 0, 1) := by decide +kernel
theorem dX11_fault_15 : decode cX11_fault 15 = .ok (.getfield 116, 3) := by decide +kernel
theorem dX11_fault_18 : decode cX11_fault 18 = .ok (.goto 4, 3) := by decide +kernel
theorem dX11_fault_21 : decode cX11_fault 21 = .ok (.iconst (-1), 1) := by decide +kernel
theorem dX11_fault_22 : decode cX11_fault 22 = .ok (.ireturn, 1) := by decide +kernel
theorem dX11_isPerson_0 : decode cX11_isPerson 0 = .ok (.iload_n 1, 1) := by decide +kernel
theorem dX11_isPerson_1 : decode cX11_isPerson 1 = .ok (.ifCond .lt 18, 3) := by decide +kernel
theorem dX11_isPerson_4 : decode cX11_isPerson 4 = .ok (.iload_n 1, 1) := by decide +kernel
theorem dX11_isPerson_5 : decode cX11_isPerson 5 = .ok (.aload_n 0, 1) := by decide +kernel
theorem dX11_isPerson_6 : decode cX11_isPerson 6 = .ok (.getfield 50, 3) := by decide +kernel
theorem dX11_isPerson_9 : decode cX11_isPerson 9 = .ok (.getfield 146, 3) := by decide +kernel
theorem dX11_isPerson_12 : decode cX11_isPerson 12 = .ok (.if_icmp .ge 7, 3) := by decide +kernel
theorem dX11_isPerson_15 : decode cX11_isPerson 15 = .ok (.iconst 1, 1) := by decide +kernel
theorem dX11_isPerson_16 : decode cX11_isPerson 16 = .ok (.goto 4, 3) := by decide +kernel
theorem dX11_isPerson_19 : decode cX11_isPerson 19 = .ok (.iconst 0, 1) := by decide +kernel
theorem dX11_isPerson_20 : decode cX11_isPerson 20 = .ok (.ireturn, 1) := by decide +kernel
theorem dX11_feast_0 : decode cX11_feast 0 = .ok (.iload_n 1, 1) := by decide +kernel
theorem dX11_feast_1 : decode cX11_feast 1 = .ok (.iconst (-1), 1) := by decide +kernel
theorem dX11_feast_2 : decode cX11_feast 2 = .ok (.if_icmp .eq 13, 3) := by decide +kernel
theorem dX11_feast_5 : decode cX11_feast 5 = .ok (.aload_n 0, 1) := by decide +kernel
theorem dX11_feast_6 : decode cX11_feast 6 = .ok (.iload_n 1, 1) := by decide +kernel
theorem dX11_feast_7 : decode cX11_feast 7 = .ok (.invokevirtual 200, 3) := by decide +kernel
theorem dX11_feast_10 : decode cX11_feast 10 = .ok (.ifCond .ne 5, 3) := by decide +kernel
theorem dX11_feast_13 : decode cX11_feast 13 = .ok (.iconst (-1), 1) := by decide +kernel
theorem dX11_feast_14 : decode cX11_feast 14 = .ok (.ireturn, 1) := by decide +kernel
theorem dX11_feast_15 : decode cX11_feast 15 = .ok (.aload_n 0, 1) := by decide +kernel
theorem dX11_feast_16 : decode cX11_feast 16 = .ok (.getfield 89, 3) := by decide +kernel
theorem dX11_feast_19 : decode cX11_feast 19 = .ok (.invokevirtual 297, 3) := by decide +kernel
theorem dX11_feast_22 : decode cX11_feast 22 = .ok (.istore_n 2, 1) := by decide +kernel
theorem dX11_feast_23 : decode cX11_feast 23 = .ok (.iload_n 1, 1) := by decide +kernel
theorem dX11_feast_24 : decode cX11_feast 24 = .ok (.iconst (-1), 1) := by decide +kernel
theorem dX11_feast_25 : decode cX11_feast 25 = .ok (.if_icmp .ne 7, 3) := by decide +kernel
theorem dX11_feast_28 : decode cX11_feast 28 = .ok (.iload_n 2, 1) := by decide +kernel
theorem dX11_feast_29 : decode cX11_feast 29 = .ok (.goto 12, 3) := by decide +kernel
theorem dX11_feast_32 : decode cX11_feast 32 = .ok (.aload_n 0, 1) := by decide +kernel
theorem dX11_feast_33 : decode cX11_feast 33 = .ok (.getfield 89, 3) := by decide +kernel
theorem dX11_feast_36 : decode cX11_feast 36 = .ok (.getfield 300, 3) := by decide +kernel
theorem dX11_feast_39 : decode cX11_feast 39 = .ok (.iload_n 1, 1) := by decide +kernel
theorem dX11_feast_40 : decode cX11_feast 40 = .ok (.iaload, 1) := by decide +kernel
theorem dX11_feast_41 : decode cX11_feast 41 = .ok (.ireturn, 1) := by decide +kernel
theorem dX11_feed_0 : decode cX11_feed 0 = .ok (.aload_n 0, 1) := by decide +kernel
theorem dX11_feed_1 : decode cX11_feed 1 = .ok (.getfield 16, 3) := by decide +kernel
theorem dX11_feed_4 : decode cX11_feed 4 = .ok (.getfield 119, 3) := by decide +kernel
theorem dX11_feed_7 : decode cX11_feed 7 = .ok (.bipush 20, 2) := by decide +kernel
theorem dX11_feed_9 : decode cX11_feed 9 = .ok (.iadd, 1) := by decide +kernel
theorem dX11_feed_10 : decode cX11_feed 10 = .ok (.sipush 1600, 3) := by decide +kernel
theorem dX11_feed_13 : decode cX11_feed 13 = .ok (.if_icmp .le 9, 3) := by decide +kernel
theorem dX11_feed_16 : decode cX11_feed 16 = .ok (.aload_n 0, 1) := by decide +kernel
theorem dX11_feed_17 : decode cX11_feed 17 = .ok (.iconst 0, 1) := by decide +kernel
theorem dX11_feed_18 : decode cX11_feed 18 = .ok (.invokevirtual 122, 3) := by decide +kernel
theorem dX11_feed_21 : decode cX11_feed 21 = .ok (.ireturn, 1) := by decide +kernel
theorem dX11_feed_22 : decode cX11_feed 22 = .ok (.aload_n 0, 1) := by decide +kernel
theorem dX11_feed_23 : decode cX11_feed 23 = .ok (.getfield 16, 3) := by decide +kernel
theorem dX11_feed_26 : decode cX11_feed 26 = .ok (.iload_n 1, 1) := by decide +kernel
theorem dX11_feed_27 : decode cX11_feed 27 = .ok (.invokevirtual 126, 3) := by decide +kernel
theorem dX11_feed_30 : decode cX11_feed 30 = .ok (.aload_n 0, 1) := by decide +kernel
theorem dX11_feed_31 : decode cX11_feed 31 = .ok (.getfield 16, 3) := by decide +kernel
theorem dX11_feed_34 : decode cX11_feed 34 = .ok (.iload_n 2, 1) := by decide +kernel
theorem dX11_feed_35 : decode cX11_feed 35 = .ok (.invokevirtual 126, 3) := by decide +kernel
theorem dX11_feed_38 : decode cX11_feed 38 = .ok (.aload_n 0, 1) := by decide +kernel
theorem dX11_feed_39 : decode cX11_feed 39 = .ok (.getfield 16, 3) := by decide +kernel
theorem dX11_feed_42 : decode cX11_feed 42 = .ok (.iload_n 3, 1) := by decide +kernel
theorem dX11_feed_43 : decode cX11_feed 43 = .ok (.invokevirtual 126, 3) := by decide +kernel
theorem dX11_feed_46 : decode cX11_feed 46 = .ok (.aload_n 0, 1) := by decide +kernel
theorem dX11_feed_47 : decode cX11_feed 47 = .ok (.getfield 16, 3) := by decide +kernel
theorem dX11_feed_50 : decode cX11_feed 50 = .ok (.iload 4, 2) := by decide +kernel
theorem dX11_feed_52 : decode cX11_feed 52 = .ok (.invokevirtual 126, 3) := by decide +kernel
theorem dX11_feed_55 : decode cX11_feed 55 = .ok (.aload_n 0, 1) := by decide +kernel
theorem dX11_feed_56 : decode cX11_feed 56 = .ok (.getfield 16, 3) := by decide +kernel
theorem dX11_feed_59 : decode cX11_feed 59 = .ok (.iload 5, 2) := by decide +kernel
theorem dX11_feed_61 : decode cX11_feed 61 = .ok (.invokevirtual 126, 3) := by decide +kernel
theorem dX11_feed_64 : decode cX11_feed 64 = .ok (.aload_n 0, 1) := by decide +kernel
theorem dX11_feed_65 : decode cX11_feed 65 = .ok (.getfield 16, 3) := by decide +kernel
theorem dX11_feed_68 : decode cX11_feed 68 = .ok (.getfield 119, 3) := by decide +kernel
theorem dX11_feed_71 : decode cX11_feed 71 = .ok (.ireturn, 1) := by decide +kernel
theorem dX11_fills_0 : decode cX11_fills 0 = .ok (.aload_n 0, 1) := by decide +kernel
theorem dX11_fills_1 : decode cX11_fills 1 = .ok (.iload_n 1, 1) := by decide +kernel
theorem dX11_fills_2 : decode cX11_fills 2 = .ok (.iload_n 2, 1) := by decide +kernel
theorem dX11_fills_3 : decode cX11_fills 3 = .ok (.invokevirtual 233, 3) := by decide +kernel
theorem dX11_fills_6 : decode cX11_fills 6 = .ok (.ifCond .eq 15, 3) := by decide +kernel
theorem dX11_fills_9 : decode cX11_fills 9 = .ok (.iload_n 3, 1) := by decide +kernel
theorem dX11_fills_10 : decode cX11_fills 10 = .ok (.ifCond .eq 13, 3) := by decide +kernel
theorem dX11_fills_13 : decode cX11_fills 13 = .ok (.aload_n 0, 1) := by decide +kernel
theorem dX11_fills_14 : decode cX11_fills 14 = .ok (.iload_n 3, 1) := by decide +kernel
theorem dX11_fills_15 : decode cX11_fills 15 = .ok (.invokevirtual 252, 3) := by decide +kernel
theorem dX11_fills_18 : decode cX11_fills 18 = .ok (.ifCond .ne 5, 3) := by decide +kernel
theorem dX11_fills_21 : decode cX11_fills 21 = .ok (.iconst (-1), 1) := by decide +kernel
theorem dX11_fills_22 : decode cX11_fills 22 = .ok (.ireturn, 1) := by decide +kernel
theorem dX11_fills_23 : decode cX11_fills 23 = .ok (.aload_n 0, 1) := by decide +kernel
theorem dX11_fills_24 : decode cX11_fills 24 = .ok (.getfield 59, 3) := by decide +kernel
theorem dX11_fills_27 : decode cX11_fills 27 = .ok (.aload_n 0, 1) := by decide +kernel
theorem dX11_fills_28 : decode cX11_fills 28 = .ok (.getfield 59, 3) := by decide +kernel
theorem dX11_fills_31 : decode cX11_fills 31 = .ok (.iload_n 1, 1) := by decide +kernel
theorem dX11_fills_32 : decode cX11_fills 32 = .ok (.iload_n 2, 1) := by decide +kernel
theorem dX11_fills_33 : decode cX11_fills 33 = .ok (.invokevirtual 155, 3) := by decide +kernel
theorem dX11_fills_36 : decode cX11_fills 36 = .ok (.invokevirtual 159, 3) := by decide +kernel
theorem dX11_fills_39 : decode cX11_fills 39 = .ok (.istore 5, 2) := by decide +kernel
theorem dX11_fills_41 : decode cX11_fills 41 = .ok (.iconst 0, 1) := by decide +kernel
theorem dX11_fills_42 : decode cX11_fills 42 = .ok (.istore 6, 2) := by decide +kernel
theorem dX11_fills_44 : decode cX11_fills 44 = .ok (.iconst 0, 1) := by decide +kernel
theorem dX11_fills_45 : decode cX11_fills 45 = .ok (.istore 7, 2) := by decide +kernel
theorem dX11_fills_47 : decode cX11_fills 47 = .ok (.iload 7, 2) := by decide +kernel
theorem dX11_fills_49 : decode cX11_fills 49 = .ok (.iload 5, 2) := by decide +kernel
theorem dX11_fills_51 : decode cX11_fills 51 = .ok (.if_icmp .ge 46, 3) := by decide +kernel
theorem dX11_fills_54 : decode cX11_fills 54 = .ok (.aload_n 0, 1) := by decide +kernel
theorem dX11_fills_55 : decode cX11_fills 55 = .ok (.getfield 59, 3) := by decide +kernel
theorem dX11_fills_58 : decode cX11_fills 58 = .ok (.getfield 163, 3) := by decide +kernel
theorem dX11_fills_61 : decode cX11_fills 61 = .ok (.iload 7, 2) := by decide +kernel
theorem dX11_fills_63 : decode cX11_fills 63 = .ok (.iaload, 1) := by decide +kernel
theorem dX11_fills_64 : decode cX11_fills 64 = .ok (.iload_n 3, 1) := by decide +kernel
theorem dX11_fills_65 : decode cX11_fills 65 = .ok (.iand, 1) := by decide +kernel
theorem dX11_fills_66 : decode cX11_fills 66 = .ok (.iload_n 3, 1) := by decide +kernel
theorem dX11_fills_67 : decode cX11_fills 67 = .ok (.if_icmp .ne 24, 3) := by decide +kernel
theorem dX11_fills_70 : decode cX11_fills 70 = .ok (.iload 6, 2) := by decide +kernel
theorem dX11_fills_72 : decode cX11_fills 72 = .ok (.iload 4, 2) := by decide +kernel
theorem dX11_fills_74 : decode cX11_fills 74 = .ok (.if_icmp .ne 14, 3) := by decide +kernel
theorem dX11_fills_77 : decode cX11_fills 77 = .ok (.aload_n 0, 1) := by decide +kernel
theorem dX11_fills_78 : decode cX11_fills 78 = .ok (.getfield 59, 3) := by decide +kernel
theorem dX11_fills_81 : decode cX11_fills 81 = .ok (.getfield 163, 3) := by decide +kernel
theorem dX11_fills_84 : decode cX11_fills 84 = .ok (.iload 7, 2) := by decide +kernel
theorem dX11_fills_86 : decode cX11_fills 86 = .ok (.iaload, 1) := by decide +kernel
theorem dX11_fills_87 : decode cX11_fills 87 = .ok (.ireturn, 1) := by decide +kernel
theorem dX11_fills_88 : decode cX11_fills 88 = .ok (.iinc 6 1, 3) := by decide +kernel
theorem dX11_fills_91 : decode cX11_fills 91 = .ok (.iinc 7 1, 3) := by decide +kernel
theorem dX11_fills_94 : decode cX11_fills 94 = .ok (.goto (-47), 3) := by decide +kernel
theorem dX11_fills_97 : decode cX11_fills 97 = .ok (.iload 4, 2) := by decide +kernel
theorem dX11_fills_99 : decode cX11_fills 99 = .ok (.iconst (-1), 1) := by decide +kernel
theorem dX11_fills_100 : decode cX11_fills 100 = .ok (.if_icmp .ne 8, 3) := by decide +kernel
theorem dX11_fills_103 : decode cX11_fills 103 = .ok (.iload 6, 2) := by decide +kernel
theorem dX11_fills_105 : decode cX11_fills 105 = .ok (.goto 4, 3) := by decide +kernel
theorem dX11_fills_108 : decode cX11_fills 108 = .ok (.iconst (-1), 1) := by decide +kernel
theorem dX11_fills_109 : decode cX11_fills 109 = .ok (.ireturn, 1) := by decide +kernel
theorem dX11_greedy_0 : decode cX11_greedy 0 = .ok (.aload_n 0, 1) := by decide +kernel
theorem dX11_greedy_1 : decode cX11_greedy 1 = .ok (.iload_n 1, 1) := by decide +kernel
theorem dX11_greedy_2 : decode cX11_greedy 2 = .ok (.iload_n 2, 1) := by decide +kernel
theorem dX11_greedy_3 : decode cX11_greedy 3 = .ok (.invokevirtual 233, 3) := by decide +kernel
theorem dX11_greedy_6 : decode cX11_greedy 6 = .ok (.ifCond .eq 25, 3) := by decide +kernel
theorem dX11_greedy_9 : decode cX11_greedy 9 = .ok (.aload_n 0, 1) := by decide +kernel
theorem dX11_greedy_10 : decode cX11_greedy 10 = .ok (.getfield 59, 3) := by decide +kernel
theorem dX11_greedy_13 : decode cX11_greedy 13 = .ok (.aload_n 0, 1) := by decide +kernel
theorem dX11_greedy_14 : decode cX11_greedy 14 = .ok (.getfield 59, 3) := by decide +kernel
theorem dX11_greedy_17 : decode cX11_greedy 17 = .ok (.iload_n 1, 1) := by decide +kernel
theorem dX11_greedy_18 : decode cX11_greedy 18 = .ok (.iload_n 2, 1) := by decide +kernel
theorem dX11_greedy_19 : decode cX11_greedy 19 = .ok (.invokevirtual 155, 3) := by decide +kernel
theorem dX11_greedy_22 : decode cX11_greedy 22 = .ok (.invokevirtual 240, 3) := by decide +kernel
theorem dX11_greedy_25 : decode cX11_greedy 25 = .ok (.invokestatic 220, 3) := by decide +kernel
theorem dX11_greedy_28 : decode cX11_greedy 28 = .ok (.goto 4, 3) := by decide +kernel
theorem dX11_greedy_31 : decode cX11_greedy 31 = .ok (.iconst (-1), 1) := by decide +kernel
theorem dX11_greedy_32 : decode cX11_greedy 32 = .ok (.ireturn, 1) := by decide +kernel
theorem dX11_has_0 : decode cX11_has 0 = .ok (.iload_n 1, 1) := by decide +kernel
theorem dX11_has_1 : decode cX11_has 1 = .ok (.tableswitch 135 0 9 #[55, 63, 71, 79, 87, 95, 103, 111, 119, 127], 55) := by decide +kernel
theorem dX11_has_56 : decode cX11_has 56 = .ok (.aload_n 0, 1) := by decide +kernel
theorem dX11_has_57 : decode cX11_has 57 = .ok (.getfield 50, 3) := by decide +kernel
theorem dX11_has_60 : decode cX11_has 60 = .ok (.getfield 178, 3) := by decide +kernel
theorem dX11_has_63 : decode cX11_has 63 = .ok (.ireturn, 1) := by decide +kernel
theorem dX11_has_64 : decode cX11_has 64 = .ok (.aload_n 0, 1) := by decide +kernel
theorem dX11_has_65 : decode cX11_has 65 = .ok (.getfield 50, 3) := by decide +kernel
theorem dX11_has_68 : decode cX11_has 68 = .ok (.getfield 181, 3) := by decide +kernel
theorem dX11_has_71 : decode cX11_has 71 = .ok (.ireturn, 1) := by decide +kernel
theorem dX11_has_72 : decode cX11_has 72 = .ok (.aload_n 0, 1) := by decide +kernel
theorem dX11_has_73 : decode cX11_has 73 = .ok (.getfield 50, 3) := by decide +kernel
theorem dX11_has_76 : decode cX11_has 76 = .ok (.getfield 146, 3) := by decide +kernel
theorem dX11_has_79 : decode cX11_has 79 = .ok (.ireturn, 1) := by decide +kernel
theorem dX11_has_80 : decode cX11_has 80 = .ok (.aload_n 0, 1) := by decide +kernel
theorem dX11_has_81 : decode cX11_has 81 = .ok (.getfield 66, 3) := by decide +kernel
theorem dX11_has_84 : decode cX11_has 84 = .ok (.getfield 184, 3) := by decide +kernel
theorem dX11_has_87 : decode cX11_has 87 = .ok (.ireturn, 1) := by decide +kernel
theorem dX11_has_88 : decode cX11_has 88 = .ok (.aload_n 0, 1) := by decide +kernel
theorem dX11_has_89 : decode cX11_has 89 = .ok (.getfield 66, 3) := by decide +kernel
theorem dX11_has_92 : decode cX11_has 92 = .ok (.invokevirtual 187, 3) := by decide +kernel
theorem dX11_has_95 : decode cX11_has 95 = .ok (.ireturn, 1) := by decide +kernel
theorem dX11_has_96 : decode cX11_has 96 = .ok (.aload_n 0, 1) := by decide +kernel
theorem dX11_has_97 : decode cX11_has 97 = .ok (.getfield 66, 3) := by decide +kernel
theorem dX11_has_100 : decode cX11_has 100 = .ok (.invokevirtual 190, 3) := by decide +kernel
theorem dX11_has_103 : decode cX11_has 103 = .ok (.ireturn, 1) := by decide +kernel
theorem dX11_has_104 : decode cX11_has 104 = .ok (.aload_n 0, 1) := by decide +kernel
theorem dX11_has_105 : decode cX11_has 105 = .ok (.getfield 66, 3) := by decide +kernel
theorem dX11_has_108 : decode cX11_has 108 = .ok (.invokevirtual 193, 3) := by decide +kernel
theorem dX11_has_111 : decode cX11_has 111 = .ok (.ireturn, 1) := by decide +kernel
theorem dX11_has_112 : decode cX11_has 112 = .ok (.aload_n 0, 1) := by decide +kernel
theorem dX11_has_113 : decode cX11_has 113 = .ok (.getfield 66, 3) := by decide +kernel
theorem dX11_has_116 : decode cX11_has 116 = .ok (.getfield 196, 3) := by decide +kernel
theorem dX11_has_119 : decode cX11_has 119 = .ok (.ireturn, 1) := by decide +kernel
theorem dX11_has_120 : decode cX11_has 120 = .ok (.aload_n 0, 1) := by decide +kernel
theorem dX11_has_121 : decode cX11_has 121 = .ok (.getfield 89, 3) := by decide +kernel
theorem dX11_has_124 : decode cX11_has 124 = .ok (.getfield 175, 3) := by decide +kernel
theorem dX11_has_127 : decode cX11_has 127 = .ok (.ireturn, 1) := by decide +kernel
theorem dX11_has_128 : decode cX11_has 128 = .ok (.aload_n 0, 1) := by decide +kernel
theorem dX11_has_129 : decode cX11_has 129 = .ok (.getfield 73, 3) := by decide +kernel
theorem dX11_has_132 : decode cX11_has 132 = .ok (.getfield 199, 3) := by decide +kernel
theorem dX11_has_135 : decode cX11_has 135 = .ok (.ireturn, 1) := by decide +kernel
theorem dX11_has_136 : decode cX11_has 136 = .ok (.iconst (-1), 1) := by decide +kernel
theorem dX11_has_137 : decode cX11_has 137 = .ok (.ireturn, 1) := by decide +kernel
theorem dX11_image_0 : decode cX11_image 0 = .ok (.aload_n 0, 1) := by decide +kernel
theorem dX11_image_1 : decode cX11_image 1 = .ok (.iconst 0, 1) := by decide +kernel
theorem dX11_image_2 : decode cX11_image 2 = .ok (.putfield 106, 3) := by decide +kernel
theorem dX11_image_5 : decode cX11_image 5 = .ok (.aload_n 0, 1) := by decide +kernel
theorem dX11_image_6 : decode cX11_image 6 = .ok (.aload_n 0, 1) := by decide +kernel
theorem dX11_image_7 : decode cX11_image 7 = .ok (.getfield 66, 3) := by decide +kernel
theorem dX11_image_10 : decode cX11_image 10 = .ok (.getfield 184, 3) := by decide +kernel
theorem dX11_image_13 : decode cX11_image 13 = .ok (.invokevirtual 384, 3) := by decide +kernel
theorem dX11_image_16 : decode cX11_image 16 = .ok (.iconst 1, 1) := by decide +kernel
theorem dX11_image_17 : decode cX11_image 17 = .ok (.istore_n 1, 1) := by decide +kernel
theorem dX11_image_18 : decode cX11_image 18 = .ok (.iload_n 1, 1) := by decide +kernel
theorem dX11_image_19 : decode cX11_image 19 = .ok (.aload_n 0, 1) := by decide +kernel
theorem dX11_image_20 : decode cX11_image 20 = .ok (.getfield 50, 3) := by decide +kernel
theorem dX11_image_23 : decode cX11_image 23 = .ok (.getfield 178, 3) := by decide +kernel
theorem dX11_image_26 : decode cX11_image 26 = .ok (.if_icmp .gt 22, 3) := by decide +kernel
theorem dX11_image_29 : decode cX11_image 29 = .ok (.aload_n 0, 1) := by decide +kernel
theorem dX11_image_30 : decode cX11_image 30 = .ok (.aload_n 0, 1) := by decide +kernel
theorem dX11_image_31 : decode cX11_image 31 = .ok (.getfield 66, 3) := by decide +kernel
theorem dX11_image_34 : decode cX11_image 34 = .ok (.getfield 226, 3) := by decide +kernel
theorem dX11_image_37 : decode cX11_image 37 = .ok (.iload_n 1, 1) := by decide +kernel
theorem dX11_image_38 : decode cX11_image 38 = .ok (.iaload, 1) := by decide +kernel
theorem dX11_image_39 : decode cX11_image 39 = .ok (.invokevirtual 384, 3) := by decide +kernel
theorem dX11_image_42 : decode cX11_image 42 = .ok (.iinc 1 1, 3) := by decide +kernel
theorem dX11_image_45 : decode cX11_image 45 = .ok (.goto (-27), 3) := by decide +kernel
theorem dX11_image_48 : decode cX11_image 48 = .ok (.iconst 0, 1) := by decide +kernel
theorem dX11_image_49 : decode cX11_image 49 = .ok (.istore_n 1, 1) := by decide +kernel
theorem dX11_image_50 : decode cX11_image 50 = .ok (.iload_n 1, 1) := by decide +kernel
theorem dX11_image_51 : decode cX11_image 51 = .ok (.aload_n 0, 1) := by decide +kernel
theorem dX11_image_52 : decode cX11_image 52 = .ok (.getfield 50, 3) := by decide +kernel
theorem dX11_image_55 : decode cX11_image 55 = .ok (.getfield 146, 3) := by decide +kernel
theorem dX11_image_58 : decode cX11_image 58 = .ok (.if_icmp .ge 35, 3) := by decide +kernel
theorem dX11_image_61 : decode cX11_image 61 = .ok (.aload_n 0, 1) := by decide +kernel
theorem dX11_image_62 : decode cX11_image 62 = .ok (.aload_n 0, 1) := by decide +kernel
theorem dX11_image_63 : decode cX11_image 63 = .ok (.getfield 66, 3) := by decide +kernel
theorem dX11_image_66 : decode cX11_image 66 = .ok (.getfield 207, 3) := by decide +kernel
theorem dX11_image_69 : decode cX11_image 69 = .ok (.iload_n 1, 1) := by decide +kernel
theorem dX11_image_70 : decode cX11_image 70 = .ok (.iaload, 1) := by decide +kernel
theorem dX11_image_71 : decode cX11_image 71 = .ok (.invokevirtual 387, 3) := by decide +kernel
theorem dX11_image_74 : decode cX11_image 74 = .ok (.aload_n 0, 1) := by decide +kernel
theorem dX11_image_75 : decode cX11_image 75 = .ok (.aload_n 0, 1) := by decide +kernel
theorem dX11_image_76 : decode cX11_image 76 = .ok (.getfield 66, 3) := by decide +kernel
theorem dX11_image_79 : decode cX11_image 79 = .ok (.getfield 210, 3) := by decide +kernel
theorem dX11_image_82 : decode cX11_image 82 = .ok (.iload_n 1, 1) := by decide +kernel
theorem dX11_image_83 : decode cX11_image 83 = .ok (.iaload, 1) := by decide +kernel
theorem dX11_image_84 : decode cX11_image 84 = .ok (.invokevirtual 384, 3) := by decide +kernel
theorem dX11_image_87 : decode cX11_image 87 = .ok (.iinc 1 1, 3) := by decide +kernel
theorem dX11_image_90 : decode cX11_image 90 = .ok (.goto (-40), 3) := by decide +kernel
theorem dX11_image_93 : decode cX11_image 93 = .ok (.aload_n 0, 1) := by decide +kernel
theorem dX11_image_94 : decode cX11_image 94 = .ok (.aload_n 0, 1) := by decide +kernel
theorem dX11_image_95 : decode cX11_image 95 = .ok (.getfield 103, 3) := by decide +kernel
theorem dX11_image_98 : decode cX11_image 98 = .ok (.aload_n 0, 1) := by decide +kernel
theorem dX11_image_99 : decode cX11_image 99 = .ok (.getfield 106, 3) := by decide +kernel
theorem dX11_image_102 : decode cX11_image 102 = .ok (.invokestatic 390, 3) := by decide +kernel
theorem dX11_image_105 : decode cX11_image 105 = .ok (.invokevirtual 387, 3) := by decide +kernel
theorem dX11_image_108 : decode cX11_image 108 = .ok (.aload_n 0, 1) := by decide +kernel
theorem dX11_image_109 : decode cX11_image 109 = .ok (.getfield 106, 3) := by decide +kernel
theorem dX11_image_112 : decode cX11_image 112 = .ok (.ireturn, 1) := by decide +kernel
theorem dX11_kept_0 : decode cX11_kept 0 = .ok (.iload_n 1, 1) := by decide +kernel
theorem dX11_kept_1 : decode cX11_kept 1 = .ok (.ifCond .lt 23, 3) := by decide +kernel
theorem dX11_kept_4 : decode cX11_kept 4 = .ok (.iload_n 1, 1) := by decide +kernel
theorem dX11_kept_5 : decode cX11_kept 5 = .ok (.aload_n 0, 1) := by decide +kernel
theorem dX11_kept_6 : decode cX11_kept 6 = .ok (.getfield 66, 3) := by decide +kernel
theorem dX11_kept_9 : decode cX11_kept 9 = .ok (.getfield 196, 3) := by decide +kernel
theorem dX11_kept_12 : decode cX11_kept 12 = .ok (.if_icmp .ge 12, 3) := by decide +kernel
theorem dX11_kept_15 : decode cX11_kept 15 = .ok (.iload_n 2, 1) := by decide +kernel
theorem dX11_kept_16 : decode cX11_kept 16 = .ok (.ifCond .lt 8, 3) := by decide +kernel
theorem dX11_kept_19 : decode cX11_kept 19 = .ok (.iload_n 2, 1) := by decide +kernel
theorem dX11_kept_20 : decode cX11_kept 20 = .ok (.iconst 3, 1) := by decide +kernel
theorem dX11_kept_21 : decode cX11_kept 21 = .ok (.if_icmp .lt 5, 3) := by decide +kernel
theorem dX11_kept_24 : decode cX11_kept 24 = .ok (.iconst (-1), 1) := by decide +kernel
theorem dX11_kept_25 : decode cX11_kept 25 = .ok (.ireturn, 1) := by decide +kernel
theorem dX11_kept_26 : decode cX11_kept 26 = .ok (.aload_n 0, 1) := by decide +kernel
theorem dX11_kept_27 : decode cX11_kept 27 = .ok (.getfield 66, 3) := by decide +kernel
theorem dX11_kept_30 : decode cX11_kept 30 = .ok (.iload_n 1, 1) := by decide +kernel
theorem dX11_kept_31 : decode cX11_kept 31 = .ok (.iload_n 2, 1) := by decide +kernel
theorem dX11_kept_32 : decode cX11_kept 32 = .ok (.invokevirtual 229, 3) := by decide +kernel
theorem dX11_kept_35 : decode cX11_kept 35 = .ok (.ireturn, 1) := by decide +kernel
theorem dX11_later_0 : decode cX11_later 0 = .ok (.aload_n 0, 1) := by decide +kernel
theorem dX11_later_1 : decode cX11_later 1 = .ok (.iload_n 1, 1) := by decide +kernel
theorem dX11_later_2 : decode cX11_later 2 = .ok (.invokevirtual 200, 3) := by decide +kernel
theorem dX11_later_5 : decode cX11_later 5 = .ok (.ifCond .eq 29, 3) := by decide +kernel
theorem dX11_later_8 : decode cX11_later 8 = .ok (.aload_n 0, 1) := by decide +kernel
theorem dX11_later_9 : decode cX11_later 9 = .ok (.getfield 89, 3) := by decide +kernel
theorem dX11_later_12 : decode cX11_later 12 = .ok (.iload_n 2, 1) := by decide +kernel
theorem dX11_later_13 : decode cX11_later 13 = .ok (.invokevirtual 278, 3) := by decide +kernel
theorem dX11_later_16 : decode cX11_later 16 = .ok (.ifCond .eq 18, 3) := by decide +kernel
theorem dX11_later_19 : decode cX11_later 19 = .ok (.aload_n 0, 1) := by decide +kernel
theorem dX11_later_20 : decode cX11_later 20 = .ok (.getfield 89, 3) := by decide +kernel
theorem dX11_later_23 : decode cX11_later 23 = .ok (.getfield 281, 3) := by decide +kernel
theorem dX11_later_26 : decode cX11_later 26 = .ok (.getfield 207, 3) := by decide +kernel
theorem dX11_later_29 : decode cX11_later 29 = .ok (.iload_n 1, 1) := by decide +kernel
theorem dX11_later_30 : decode cX11_later 30 = .ok (.iaload, 1) := by decide +kernel
theorem dX11_later_31 : decode cX11_later 31 = .ok (.goto 4, 3) := by decide +kernel
theorem dX11_later_34 : decode cX11_later 34 = .ok (.iconst (-1), 1) := by decide +kernel
theorem dX11_later_35 : decode cX11_later 35 = .ok (.ireturn, 1) := by decide +kernel
theorem dX11_left_0 : decode cX11_left 0 = .ok (.aload_n 0, 1) := by decide +kernel
theorem dX11_left_1 : decode cX11_left 1 = .ok (.iload_n 1, 1) := by decide +kernel
theorem dX11_left_2 : decode cX11_left 2 = .ok (.invokevirtual 223, 3) := by decide +kernel
theorem dX11_left_5 : decode cX11_left 5 = .ok (.ifCond .eq 29, 3) := by decide +kernel
theorem dX11_left_8 : decode cX11_left 8 = .ok (.aload_n 0, 1) := by decide +kernel
theorem dX11_left_9 : decode cX11_left 9 = .ok (.getfield 89, 3) := by decide +kernel
theorem dX11_left_12 : decode cX11_left 12 = .ok (.iload_n 2, 1) := by decide +kernel
theorem dX11_left_13 : decode cX11_left 13 = .ok (.invokevirtual 278, 3) := by decide +kernel
theorem dX11_left_16 : decode cX11_left 16 = .ok (.ifCond .eq 18, 3) := by decide +kernel
theorem dX11_left_19 : decode cX11_left 19 = .ok (.aload_n 0, 1) := by decide +kernel
theorem dX11_left_20 : decode cX11_left 20 = .ok (.getfield 89, 3) := by decide +kernel
theorem dX11_left_23 : decode cX11_left 23 = .ok (.getfield 281, 3) := by decide +kernel
theorem dX11_left_26 : decode cX11_left 26 = .ok (.getfield 226, 3) := by decide +kernel
theorem dX11_left_29 : decode cX11_left 29 = .ok (.iload_n 1, 1) := by decide +kernel
theorem dX11_left_30 : decode cX11_left 30 = .ok (.iaload, 1) := by decide +kernel
theorem dX11_left_31 : decode cX11_left 31 = .ok (.goto 4, 3) := by decide +kernel
theorem dX11_left_34 : decode cX11_left 34 = .ok (.iconst (-1), 1) := by decide +kernel
theorem dX11_left_35 : decode cX11_left 35 = .ok (.ireturn, 1) := by decide +kernel
theorem dX11_letter_0 : decode cX11_letter 0 = .ok (.aload_n 0, 1) := by decide +kernel
theorem dX11_letter_1 : decode cX11_letter 1 = .ok (.iload_n 1, 1) := by decide +kernel
theorem dX11_letter_2 : decode cX11_letter 2 = .ok (.invokevirtual 200, 3) := by decide +kernel
theorem dX11_letter_5 : decode cX11_letter 5 = .ok (.ifCond .eq 13, 3) := by decide +kernel
theorem dX11_letter_8 : decode cX11_letter 8 = .ok (.iload_n 2, 1) := by decide +kernel
theorem dX11_letter_9 : decode cX11_letter 9 = .ok (.ifCond .lt 9, 3) := by decide +kernel
theorem dX11_letter_12 : decode cX11_letter 12 = .ok (.iload_n 2, 1) := by decide +kernel
theorem dX11_letter_13 : decode cX11_letter 13 = .ok (.bipush 6, 2) := by decide +kernel
theorem dX11_letter_15 : decode cX11_letter 15 = .ok (.if_icmp .lt 5, 3) := by decide +kernel
theorem dX11_letter_18 : decode cX11_letter 18 = .ok (.iconst (-1), 1) := by decide +kernel
theorem dX11_letter_19 : decode cX11_letter 19 = .ok (.ireturn, 1) := by decide +kernel
theorem dX11_letter_20 : decode cX11_letter 20 = .ok (.aload_n 0, 1) := by decide +kernel
theorem dX11_letter_21 : decode cX11_letter 21 = .ok (.getfield 50, 3) := by decide +kernel
theorem dX11_letter_24 : decode cX11_letter 24 = .ok (.getfield 204, 3) := by decide +kernel
theorem dX11_letter_27 : decode cX11_letter 27 = .ok (.iload_n 1, 1) := by decide +kernel
theorem dX11_letter_28 : decode cX11_letter 28 = .ok (.iaload, 1) := by decide +kernel
theorem dX11_letter_29 : decode cX11_letter 29 = .ok (.istore_n 3, 1) := by decide +kernel
theorem dX11_letter_30 : decode cX11_letter 30 = .ok (.iconst 5, 1) := by decide +kernel
theorem dX11_letter_31 : decode cX11_letter 31 = .ok (.istore 4, 2) := by decide +kernel
theorem dX11_letter_33 : decode cX11_letter 33 = .ok (.iload 4, 2) := by decide +kernel
theorem dX11_letter_35 : decode cX11_letter 35 = .ok (.iload_n 2, 1) := by decide +kernel
theorem dX11_letter_36 : decode cX11_letter 36 = .ok (.if_icmp .le 14, 3) := by decide +kernel
theorem dX11_letter_39 : decode cX11_letter 39 = .ok (.iload_n 3, 1) := by decide +kernel
theorem dX11_letter_40 : decode cX11_letter 40 = .ok (.bipush 27, 2) := by decide +kernel
theorem dX11_letter_42 : decode cX11_letter 42 = .ok (.idiv, 1) := by decide +kernel
theorem dX11_letter_43 : decode cX11_letter 43 = .ok (.istore_n 3, 1) := by decide +kernel
theorem dX11_letter_44 : decode cX11_letter 44 = .ok (.iinc 4 (-1), 3) := by decide +kernel
theorem dX11_letter_47 : decode cX11_letter 47 = .ok (.goto (-14), 3) := by decide +kernel
theorem dX11_letter_50 : decode cX11_letter 50 = .ok (.iload_n 3, 1) := by decide +kernel
theorem dX11_letter_51 : decode cX11_letter 51 = .ok (.bipush 27, 2) := by decide +kernel
theorem dX11_letter_53 : decode cX11_letter 53 = .ok (.irem, 1) := by decide +kernel
theorem dX11_letter_54 : decode cX11_letter 54 = .ok (.ireturn, 1) := by decide +kernel
theorem dX11_makes_0 : decode cX11_makes 0 = .ok (.aload_n 0, 1) := by decide +kernel
theorem dX11_makes_1 : decode cX11_makes 1 = .ok (.iload_n 1, 1) := by decide +kernel
theorem dX11_makes_2 : decode cX11_makes 2 = .ok (.invokevirtual 252, 3) := by decide +kernel
theorem dX11_makes_5 : decode cX11_makes 5 = .ok (.ifCond .eq 12, 3) := by decide +kernel
theorem dX11_makes_8 : decode cX11_makes 8 = .ok (.iload_n 2, 1) := by decide +kernel
theorem dX11_makes_9 : decode cX11_makes 9 = .ok (.ifCond .lt 8, 3) := by decide +kernel
theorem dX11_makes_12 : decode cX11_makes 12 = .ok (.iload_n 2, 1) := by decide +kernel
theorem dX11_makes_13 : decode cX11_makes 13 = .ok (.iconst 1, 1) := by decide +kernel
theorem dX11_makes_14 : decode cX11_makes 14 = .ok (.if_icmp .le 7, 3) := by decide +kernel
theorem dX11_makes_17 : decode cX11_makes 17 = .ok (.ldc2_w 246, 3) := by decide +kernel
theorem dX11_makes_20 : decode cX11_makes 20 = .ok (.lreturn, 1) := by decide +kernel
theorem dX11_makes_21 : decode cX11_makes 21 = .ok (.aload_n 0, 1) := by decide +kernel
theorem dX11_makes_22 : decode cX11_makes 22 = .ok (.getfield 59, 3) := by decide +kernel
theorem dX11_makes_25 : decode cX11_makes 25 = .ok (.iload_n 1, 1) := by decide +kernel
theorem dX11_makes_26 : decode cX11_makes 26 = .ok (.invokevirtual 255, 3) := by decide +kernel
theorem dX11_makes_29 : decode cX11_makes 29 = .ok (.lstore_n 3, 1) := by decide +kernel
theorem dX11_makes_30 : decode cX11_makes 30 = .ok (.lload_n 3, 1) := by decide +kernel
theorem dX11_makes_31 : decode cX11_makes 31 = .ok (.ldc2_w 258, 3) := by decide +kernel
theorem dX11_makes_34 : decode cX11_makes 34 = .ok (.invokestatic 260, 3) := by decide +kernel
theorem dX11_makes_37 : decode cX11_makes 37 = .ok (.lstore 5, 2) := by decide +kernel
theorem dX11_makes_39 : decode cX11_makes 39 = .ok (.lload 5, 2) := by decide +kernel
theorem dX11_makes_41 : decode cX11_makes 41 = .ok (.lconst 0, 1) := by decide +kernel
theorem dX11_makes_42 : decode cX11_makes 42 = .ok (.lcmp, 1) := by decide +kernel
theorem dX11_makes_43 : decode cX11_makes 43 = .ok (.ifCond .gt 7, 3) := by decide +kernel
theorem dX11_makes_46 : decode cX11_makes 46 = .ok (.ldc2_w 246, 3) := by decide +kernel
theorem dX11_makes_49 : decode cX11_makes 49 = .ok (.lreturn, 1) := by decide +kernel
theorem dX11_makes_50 : decode cX11_makes 50 = .ok (.iload_n 2, 1) := by decide +kernel
theorem dX11_makes_51 : decode cX11_makes 51 = .ok (.ifCond .ne 7, 3) := by decide +kernel
theorem dX11_makes_54 : decode cX11_makes 54 = .ok (.lload_n 3, 1) := by decide +kernel
theorem dX11_makes_55 : decode cX11_makes 55 = .ok (.goto 6, 3) := by decide +kernel
theorem dX11_makes_58 : decode cX11_makes 58 = .ok (.ldc2_w 258, 3) := by decide +kernel
theorem dX11_makes_61 : decode cX11_makes 61 = .ok (.lload 5, 2) := by decide +kernel
theorem dX11_makes_63 : decode cX11_makes 63 = .ok (.ldiv, 1) := by decide +kernel
theorem dX11_makes_64 : decode cX11_makes 64 = .ok (.lreturn, 1) := by decide +kernel
theorem dX11_mend_0 : decode cX11_mend 0 = .ok (.aload_n 0, 1) := by decide +kernel
theorem dX11_mend_1 : decode cX11_mend 1 = .ok (.iload_n 1, 1) := by decide +kernel
theorem dX11_mend_2 : decode cX11_mend 2 = .ok (.iload_n 2, 1) := by decide +kernel
theorem dX11_mend_3 : decode cX11_mend 3 = .ok (.invokevirtual 233, 3) := by decide +kernel
theorem dX11_mend_6 : decode cX11_mend 6 = .ok (.ifCond .eq 22, 3) := by decide +kernel
theorem dX11_mend_9 : decode cX11_mend 9 = .ok (.aload_n 0, 1) := by decide +kernel
theorem dX11_mend_10 : decode cX11_mend 10 = .ok (.iload_n 3, 1) := by decide +kernel
theorem dX11_mend_11 : decode cX11_mend 11 = .ok (.invokevirtual 252, 3) := by decide +kernel
theorem dX11_mend_14 : decode cX11_mend 14 = .ok (.ifCond .eq 14, 3) := by decide +kernel
theorem dX11_mend_17 : decode cX11_mend 17 = .ok (.iload 4, 2) := by decide +kernel
theorem dX11_mend_19 : decode cX11_mend 19 = .ok (.ifCond .lt 9, 3) := by decide +kernel
theorem dX11_mend_22 : decode cX11_mend 22 = .ok (.iload 4, 2) := by decide +kernel
theorem dX11_mend_24 : decode cX11_mend 24 = .ok (.iconst 2, 1) := by decide +kernel
theorem dX11_mend_25 : decode cX11_mend 25 = .ok (.if_icmp .le 5, 3) := by decide +kernel
theorem dX11_mend_28 : decode cX11_mend 28 = .ok (.iconst (-1), 1) := by decide +kernel
theorem dX11_mend_29 : decode cX11_mend 29 = .ok (.ireturn, 1) := by decide +kernel
theorem dX11_mend_30 : decode cX11_mend 30 = .ok (.aload_n 0, 1) := by decide +kernel
theorem dX11_mend_31 : decode cX11_mend 31 = .ok (.getfield 59, 3) := by decide +kernel
theorem dX11_mend_34 : decode cX11_mend 34 = .ok (.iload_n 1, 1) := by decide +kernel
theorem dX11_mend_35 : decode cX11_mend 35 = .ok (.iload_n 2, 1) := by decide +kernel
theorem dX11_mend_36 : decode cX11_mend 36 = .ok (.invokevirtual 155, 3) := by decide +kernel
theorem dX11_mend_39 : decode cX11_mend 39 = .ok (.lstore 5, 2) := by decide +kernel
theorem dX11_mend_41 : decode cX11_mend 41 = .ok (.aload_n 0, 1) := by decide +kernel
theorem dX11_mend_42 : decode cX11_mend 42 = .ok (.getfield 59, 3) := by decide +kernel
theorem dX11_mend_45 : decode cX11_mend 45 = .ok (.iload_n 3, 1) := by decide +kernel
theorem dX11_mend_46 : decode cX11_mend 46 = .ok (.lload 5, 2) := by decide +kernel
theorem dX11_mend_48 : decode cX11_mend 48 = .ok (.invokevirtual 264, 3) := by decide +kernel
theorem dX11_mend_51 : decode cX11_mend 51 = .ok (.ifCond .eq 5, 3) := by decide +kernel
theorem dX11_mend_54 : decode cX11_mend 54 = .ok (.iconst (-1), 1) := by decide +kernel
theorem dX11_mend_55 : decode cX11_mend 55 = .ok (.ireturn, 1) := by decide +kernel
theorem dX11_mend_56 : decode cX11_mend 56 = .ok (.aload_n 0, 1) := by decide +kernel
theorem dX11_mend_57 : decode cX11_mend 57 = .ok (.getfield 59, 3) := by decide +kernel
theorem dX11_mend_60 : decode cX11_mend 60 = .ok (.iload_n 3, 1) := by decide +kernel
theorem dX11_mend_61 : decode cX11_mend 61 = .ok (.lload 5, 2) := by decide +kernel
theorem dX11_mend_63 : decode cX11_mend 63 = .ok (.invokevirtual 268, 3) := by decide +kernel
theorem dX11_mend_66 : decode cX11_mend 66 = .ok (.istore 7, 2) := by decide +kernel
theorem dX11_mend_68 : decode cX11_mend 68 = .ok (.iload 4, 2) := by decide +kernel
theorem dX11_mend_70 : decode cX11_mend 70 = .ok (.ifCond .ne 6, 3) := by decide +kernel
theorem dX11_mend_73 : decode cX11_mend 73 = .ok (.iload 7, 2) := by decide +kernel
theorem dX11_mend_75 : decode cX11_mend 75 = .ok (.ireturn, 1) := by decide +kernel
theorem dX11_mend_76 : decode cX11_mend 76 = .ok (.iload 7, 2) := by decide +kernel
theorem dX11_mend_78 : decode cX11_mend 78 = .ok (.ifCond .ne 5, 3) := by decide +kernel
theorem dX11_mend_81 : decode cX11_mend 81 = .ok (.iconst (-1), 1) := by decide +kernel
theorem dX11_mend_82 : decode cX11_mend 82 = .ok (.ireturn, 1) := by decide +kernel
theorem dX11_mend_83 : decode cX11_mend 83 = .ok (.iload 4, 2) := by decide +kernel
theorem dX11_mend_85 : decode cX11_mend 85 = .ok (.iconst 1, 1) := by decide +kernel
theorem dX11_mend_86 : decode cX11_mend 86 = .ok (.if_icmp .ne 13, 3) := by decide +kernel
theorem dX11_mend_89 : decode cX11_mend 89 = .ok (.aload_n 0, 1) := by decide +kernel
theorem dX11_mend_90 : decode cX11_mend 90 = .ok (.getfield 59, 3) := by decide +kernel
theorem dX11_mend_93 : decode cX11_mend 93 = .ok (.getfield 272, 3) := by decide +kernel
theorem dX11_mend_96 : decode cX11_mend 96 = .ok (.goto 10, 3) := by decide +kernel
theorem dX11_mend_99 : decode cX11_mend 99 = .ok (.aload_n 0, 1) := by decide +kernel
theorem dX11_mend_100 : decode cX11_mend 100 = .ok (.getfield 59, 3) := by decide +kernel
theorem dX11_mend_103 : decode cX11_mend 103 = .ok (.getfield 275, 3) := by decide +kernel
theorem dX11_mend_106 : decode cX11_mend 106 = .ok (.ireturn, 1) := by decide +kernel
theorem dX11_octet_0 : decode cX11_octet 0 = .ok (.iload_n 1, 1) := by decide +kernel
theorem dX11_octet_1 : decode cX11_octet 1 = .ok (.ifCond .lt 20, 3) := by decide +kernel
theorem dX11_octet_4 : decode cX11_octet 4 = .ok (.iload_n 1, 1) := by decide +kernel
theorem dX11_octet_5 : decode cX11_octet 5 = .ok (.aload_n 0, 1) := by decide +kernel
theorem dX11_octet_6 : decode cX11_octet 6 = .ok (.getfield 106, 3) := by decide +kernel
theorem dX11_octet_9 : decode cX11_octet 9 = .ok (.if_icmp .ge 12, 3) := by decide +kernel
theorem dX11_octet_12 : decode cX11_octet 12 = .ok (.aload_n 0, 1) := by decide +kernel
theorem dX11_octet_13 : decode cX11_octet 13 = .ok (.getfield 103, 3) := by decide +kernel
theorem dX11_octet_16 : decode cX11_octet 16 = .ok (.iload_n 1, 1) := by decide +kernel
theorem dX11_octet_17 : decode cX11_octet 17 = .ok (.iaload, 1) := by decide +kernel
theorem dX11_octet_18 : decode cX11_octet 18 = .ok (.goto 4, 3) := by decide +kernel
theorem dX11_octet_21 : decode cX11_octet 21 = .ok (.iconst (-1), 1) := by decide +kernel
theorem dX11_octet_22 : decode cX11_octet 22 = .ok (.ireturn, 1) := by decide +kernel
theorem dX11_odds_0 : decode cX11_odds 0 = .ok (.aload_n 0, 1) := by decide +kernel
theorem dX11_odds_1 : decode cX11_odds 1 = .ok (.invokevirtual 287, 3) := by decide +kernel
theorem dX11_odds_4 : decode cX11_odds 4 = .ok (.ifCond .eq 16, 3) := by decide +kernel
theorem dX11_odds_7 : decode cX11_odds 7 = .ok (.aload_n 0, 1) := by decide +kernel
theorem dX11_odds_8 : decode cX11_odds 8 = .ok (.getfield 66, 3) := by decide +kernel
theorem dX11_odds_11 : decode cX11_odds 11 = .ok (.getfield 184, 3) := by decide +kernel
theorem dX11_odds_14 : decode cX11_odds 14 = .ok (.sipush 999, 3) := by decide +kernel
theorem dX11_odds_17 : decode cX11_odds 17 = .ok (.if_icmp .lt 5, 3) := by decide +kernel
theorem dX11_odds_20 : decode cX11_odds 20 = .ok (.iconst (-1), 1) := by decide +kernel
theorem dX11_odds_21 : decode cX11_odds 21 = .ok (.ireturn, 1) := by decide +kernel
theorem dX11_odds_22 : decode cX11_odds 22 = .ok (.iload_n 1, 1) := by decide +kernel
theorem dX11_odds_23 : decode cX11_odds 23 = .ok (.iconst (-1), 1) := by decide +kernel
theorem dX11_odds_24 : decode cX11_odds 24 = .ok (.if_icmp .ne 14, 3) := by decide +kernel
theorem dX11_odds_27 : decode cX11_odds 27 = .ok (.bipush 100, 2) := by decide +kernel
theorem dX11_odds_29 : decode cX11_odds 29 = .ok (.aload_n 0, 1) := by decide +kernel
theorem dX11_odds_30 : decode cX11_odds 30 = .ok (.getfield 50, 3) := by decide +kernel
theorem dX11_odds_33 : decode cX11_odds 33 = .ok (.getfield 178, 3) := by decide +kernel
theorem dX11_odds_36 : decode cX11_odds 36 = .ok (.imul, 1) := by decide +kernel
theorem dX11_odds_37 : decode cX11_odds 37 = .ok (.ireturn, 1) := by decide +kernel
theorem dX11_odds_38 : decode cX11_odds 38 = .ok (.aload_n 0, 1) := by decide +kernel
theorem dX11_odds_39 : decode cX11_odds 39 = .ok (.iload_n 1, 1) := by decide +kernel
theorem dX11_odds_40 : decode cX11_odds 40 = .ok (.invokevirtual 200, 3) := by decide +kernel
theorem dX11_odds_43 : decode cX11_odds 43 = .ok (.ifCond .eq 14, 3) := by decide +kernel
theorem dX11_odds_46 : decode cX11_odds 46 = .ok (.aload_n 0, 1) := by decide +kernel
theorem dX11_odds_47 : decode cX11_odds 47 = .ok (.getfield 89, 3) := by decide +kernel
theorem dX11_odds_50 : decode cX11_odds 50 = .ok (.iload_n 1, 1) := by decide +kernel
theorem dX11_odds_51 : decode cX11_odds 51 = .ok (.invokevirtual 303, 3) := by decide +kernel
theorem dX11_odds_54 : decode cX11_odds 54 = .ok (.goto 4, 3) := by decide +kernel
theorem dX11_odds_57 : decode cX11_odds 57 = .ok (.iconst (-1), 1) := by decide +kernel
theorem dX11_odds_58 : decode cX11_odds 58 = .ok (.ireturn, 1) := by decide +kernel
theorem dX11_office_0 : decode cX11_office 0 = .ok (.aload_n 0, 1) := by decide +kernel
theorem dX11_office_1 : decode cX11_office 1 = .ok (.getfield 43, 3) := by decide +kernel
theorem dX11_office_4 : decode cX11_office 4 = .ok (.invokevirtual 130, 3) := by decide +kernel
theorem dX11_office_7 : decode cX11_office 7 = .ok (.istore_n 1, 1) := by decide +kernel
theorem dX11_office_8 : decode cX11_office 8 = .ok (.aload_n 0, 1) := by decide +kernel
theorem dX11_office_9 : decode cX11_office 9 = .ok (.getfield 16, 3) := by decide +kernel
theorem dX11_office_12 : decode cX11_office 12 = .ok (.iconst 0, 1) := by decide +kernel
theorem dX11_office_13 : decode cX11_office 13 = .ok (.putfield 119, 3) := by decide +kernel
theorem dX11_office_16 : decode cX11_office 16 = .ok (.aload_n 0, 1) := by decide +kernel
theorem dX11_office_17 : decode cX11_office 17 = .ok (.invokevirtual 134, 3) := by decide +kernel
theorem dX11_office_20 : decode cX11_office 20 = .ok (.iload_n 1, 1) := by decide +kernel
theorem dX11_office_21 : decode cX11_office 21 = .ok (.iconst (-1), 1) := by decide +kernel
theorem dX11_office_22 : decode cX11_office 22 = .ok (.if_icmp .ne 9, 3) := by decide +kernel
theorem dX11_office_25 : decode cX11_office 25 = .ok (.aload_n 0, 1) := by decide +kernel
theorem dX11_office_26 : decode cX11_office 26 = .ok (.iconst 1, 1) := by decide +kernel
theorem dX11_office_27 : decode cX11_office 27 = .ok (.invokevirtual 122, 3) := by decide +kernel
theorem dX11_office_30 : decode cX11_office 30 = .ok (.ireturn, 1) := by decide +kernel
theorem dX11_office_31 : decode cX11_office 31 = .ok (.aload_n 0, 1) := by decide +kernel
theorem dX11_office_32 : decode cX11_office 32 = .ok (.getfield 50, 3) := by decide +kernel
theorem dX11_office_35 : decode cX11_office 35 = .ok (.aload_n 0, 1) := by decide +kernel
theorem dX11_office_36 : decode cX11_office 36 = .ok (.getfield 43, 3) := by decide +kernel
theorem dX11_office_39 : decode cX11_office 39 = .ok (.getfield 137, 3) := by decide +kernel
theorem dX11_office_42 : decode cX11_office 42 = .ok (.invokevirtual 140, 3) := by decide +kernel
theorem dX11_office_45 : decode cX11_office 45 = .ok (.aload_n 0, 1) := by decide +kernel
theorem dX11_office_46 : decode cX11_office 46 = .ok (.getfield 59, 3) := by decide +kernel
theorem dX11_office_49 : decode cX11_office 49 = .ok (.invokevirtual 143, 3) := by decide +kernel
theorem dX11_office_52 : decode cX11_office 52 = .ok (.iconst 0, 1) := by decide +kernel
theorem dX11_office_53 : decode cX11_office 53 = .ok (.istore_n 2, 1) := by decide +kernel
theorem dX11_office_54 : decode cX11_office 54 = .ok (.iload_n 2, 1) := by decide +kernel
theorem dX11_office_55 : decode cX11_office 55 = .ok (.aload_n 0, 1) := by decide +kernel
theorem dX11_office_56 : decode cX11_office 56 = .ok (.getfield 50, 3) := by decide +kernel
theorem dX11_office_59 : decode cX11_office 59 = .ok (.getfield 146, 3) := by decide +kernel
theorem dX11_office_62 : decode cX11_office 62 = .ok (.if_icmp .ge 64, 3) := by decide +kernel
theorem dX11_office_65 : decode cX11_office 65 = .ok (.aload_n 0, 1) := by decide +kernel
theorem dX11_office_66 : decode cX11_office 66 = .ok (.getfield 59, 3) := by decide +kernel
theorem dX11_office_69 : decode cX11_office 69 = .ok (.aload_n 0, 1) := by decide +kernel
theorem dX11_office_70 : decode cX11_office 70 = .ok (.getfield 59, 3) := by decide +kernel
theorem dX11_office_73 : decode cX11_office 73 = .ok (.aload_n 0, 1) := by decide +kernel
theorem dX11_office_74 : decode cX11_office 74 = .ok (.getfield 50, 3) := by decide +kernel
theorem dX11_office_77 : decode cX11_office 77 = .ok (.getfield 149, 3) := by decide +kernel
theorem dX11_office_80 : decode cX11_office 80 = .ok (.iload_n 2, 1) := by decide +kernel
theorem dX11_office_81 : decode cX11_office 81 = .ok (.iaload, 1) := by decide +kernel
theorem dX11_office_82 : decode cX11_office 82 = .ok (.aload_n 0, 1) := by decide +kernel
theorem dX11_office_83 : decode cX11_office 83 = .ok (.getfield 50, 3) := by decide +kernel
theorem dX11_office_86 : decode cX11_office 86 = .ok (.getfield 152, 3) := by decide +kernel
theorem dX11_office_89 : decode cX11_office 89 = .ok (.iload_n 2, 1) := by decide +kernel
theorem dX11_office_90 : decode cX11_office 90 = .ok (.iaload, 1) := by decide +kernel
theorem dX11_office_91 : decode cX11_office 91 = .ok (.invokevirtual 155, 3) := by decide +kernel
theorem dX11_office_94 : decode cX11_office 94 = .ok (.invokevirtual 159, 3) := by decide +kernel
theorem dX11_office_97 : decode cX11_office 97 = .ok (.pop, 1) := by decide +kernel
theorem dX11_office_98 : decode cX11_office 98 = .ok (.aload_n 0, 1) := by decide +kernel
theorem dX11_office_99 : decode cX11_office 99 = .ok (.getfield 50, 3) := by decide +kernel
theorem dX11_office_102 : decode cX11_office 102 = .ok (.iload_n 2, 1) := by decide +kernel
theorem dX11_office_103 : decode cX11_office 103 = .ok (.aload_n 0, 1) := by decide +kernel
theorem dX11_office_104 : decode cX11_office 104 = .ok (.getfield 59, 3) := by decide +kernel
theorem dX11_office_107 : decode cX11_office 107 = .ok (.getfield 163, 3) := by decide +kernel
theorem dX11_office_110 : decode cX11_office 110 = .ok (.aload_n 0, 1) := by decide +kernel
theorem dX11_office_111 : decode cX11_office 111 = .ok (.getfield 59, 3) := by decide +kernel
theorem dX11_office_114 : decode cX11_office 114 = .ok (.getfield 166, 3) := by decide +kernel
theorem dX11_office_117 : decode cX11_office 117 = .ok (.invokevirtual 167, 3) := by decide +kernel
theorem dX11_office_120 : decode cX11_office 120 = .ok (.iinc 2 1, 3) := by decide +kernel
theorem dX11_office_123 : decode cX11_office 123 = .ok (.goto (-69), 3) := by decide +kernel
theorem dX11_office_126 : decode cX11_office 126 = .ok (.aload_n 0, 1) := by decide +kernel
theorem dX11_office_127 : decode cX11_office 127 = .ok (.getfield 66, 3) := by decide +kernel
theorem dX11_office_130 : decode cX11_office 130 = .ok (.aload_n 0, 1) := by decide +kernel
theorem dX11_office_131 : decode cX11_office 131 = .ok (.getfield 50, 3) := by decide +kernel
theorem dX11_office_134 : decode cX11_office 134 = .ok (.invokevirtual 171, 3) := by decide +kernel
theorem dX11_office_137 : decode cX11_office 137 = .ok (.aload_n 0, 1) := by decide +kernel
theorem dX11_office_138 : decode cX11_office 138 = .ok (.getfield 73, 3) := by decide +kernel
theorem dX11_office_141 : decode cX11_office 141 = .ok (.invokevirtual 174, 3) := by decide +kernel
theorem dX11_office_144 : decode cX11_office 144 = .ok (.aload_n 0, 1) := by decide +kernel
theorem dX11_office_145 : decode cX11_office 145 = .ok (.getfield 89, 3) := by decide +kernel
theorem dX11_office_148 : decode cX11_office 148 = .ok (.iconst 0, 1) := by decide +kernel
theorem dX11_office_149 : decode cX11_office 149 = .ok (.putfield 175, 3) := by decide +kernel
theorem dX11_office_152 : decode cX11_office 152 = .ok (.iload_n 1, 1) := by decide +kernel
theorem dX11_office_153 : decode cX11_office 153 = .ok (.ireturn, 1) := by decide +kernel
theorem dX11_on_0 : decode cX11_on 0 = .ok (.aload_n 0, 1) := by decide +kernel
theorem dX11_on_1 : decode cX11_on 1 = .ok (.invokevirtual 287, 3) := by decide +kernel
theorem dX11_on_4 : decode cX11_on 4 = .ok (.ifCond .eq 31, 3) := by decide +kernel
theorem dX11_on_7 : decode cX11_on 7 = .ok (.aload_n 0, 1) := by decide +kernel
theorem dX11_on_8 : decode cX11_on 8 = .ok (.getfield 16, 3) := by decide +kernel
theorem dX11_on_11 : decode cX11_on 11 = .ok (.aload_n 0, 1) := by decide +kernel
theorem dX11_on_12 : decode cX11_on 12 = .ok (.getfield 50, 3) := by decide +kernel
theorem dX11_on_15 : decode cX11_on 15 = .ok (.getfield 178, 3) := by decide +kernel
theorem dX11_on_18 : decode cX11_on 18 = .ok (.aload_n 0, 1) := by decide +kernel
theorem dX11_on_19 : decode cX11_on 19 = .ok (.getfield 50, 3) := by decide +kernel
theorem dX11_on_22 : decode cX11_on 22 = .ok (.getfield 146, 3) := by decide +kernel
theorem dX11_on_25 : decode cX11_on 25 = .ok (.invokevirtual 394, 3) := by decide +kernel
theorem dX11_on_28 : decode cX11_on 28 = .ok (.ifCond .eq 7, 3) := by decide +kernel
theorem dX11_on_31 : decode cX11_on 31 = .ok (.iconst 1, 1) := by decide +kernel
theorem dX11_on_32 : decode cX11_on 32 = .ok (.goto 4, 3) := by decide +kernel
theorem dX11_on_35 : decode cX11_on 35 = .ok (.iconst 0, 1) := by decide +kernel
theorem dX11_on_36 : decode cX11_on 36 = .ok (.istore_n 1, 1) := by decide +kernel
theorem dX11_on_37 : decode cX11_on 37 = .ok (.iload_n 1, 1) := by decide +kernel
theorem dX11_on_38 : decode cX11_on 38 = .ok (.ifCond .eq 28, 3) := by decide +kernel
theorem dX11_on_41 : decode cX11_on 41 = .ok (.aload_n 0, 1) := by decide +kernel
theorem dX11_on_42 : decode cX11_on 42 = .ok (.getfield 66, 3) := by decide +kernel
theorem dX11_on_45 : decode cX11_on 45 = .ok (.aload_n 0, 1) := by decide +kernel
theorem dX11_on_46 : decode cX11_on 46 = .ok (.getfield 16, 3) := by decide +kernel
theorem dX11_on_49 : decode cX11_on 49 = .ok (.aload_n 0, 1) := by decide +kernel
theorem dX11_on_50 : decode cX11_on 50 = .ok (.getfield 50, 3) := by decide +kernel
theorem dX11_on_53 : decode cX11_on 53 = .ok (.invokevirtual 397, 3) := by decide +kernel
theorem dX11_on_56 : decode cX11_on 56 = .ok (.aload_n 0, 1) := by decide +kernel
theorem dX11_on_57 : decode cX11_on 57 = .ok (.getfield 73, 3) := by decide +kernel
theorem dX11_on_60 : decode cX11_on 60 = .ok (.invokevirtual 174, 3) := by decide +kernel
theorem dX11_on_63 : decode cX11_on 63 = .ok (.goto 9, 3) := by decide +kernel
theorem dX11_on_66 : decode cX11_on 66 = .ok (.aload_n 0, 1) := by decide +kernel
theorem dX11_on_67 : decode cX11_on 67 = .ok (.iconst 5, 1) := by decide +kernel
theorem dX11_on_68 : decode cX11_on 68 = .ok (.invokevirtual 122, 3) := by decide +kernel
theorem dX11_on_71 : decode cX11_on 71 = .ok (.pop, 1) := by decide +kernel
theorem dX11_on_72 : decode cX11_on 72 = .ok (.aload_n 0, 1) := by decide +kernel
theorem dX11_on_73 : decode cX11_on 73 = .ok (.getfield 16, 3) := by decide +kernel
theorem dX11_on_76 : decode cX11_on 76 = .ok (.iconst 0, 1) := by decide +kernel
theorem dX11_on_77 : decode cX11_on 77 = .ok (.putfield 119, 3) := by decide +kernel
theorem dX11_on_80 : decode cX11_on 80 = .ok (.iload_n 1, 1) := by decide +kernel
theorem dX11_on_81 : decode cX11_on 81 = .ok (.ireturn, 1) := by decide +kernel
theorem dX11_person_0 : decode cX11_person 0 = .ok (.aload_n 0, 1) := by decide +kernel
theorem dX11_person_1 : decode cX11_person 1 = .ok (.iload_n 1, 1) := by decide +kernel
theorem dX11_person_2 : decode cX11_person 2 = .ok (.invokevirtual 200, 3) := by decide +kernel
theorem dX11_person_5 : decode cX11_person 5 = .ok (.ifCond .ne 5, 3) := by decide +kernel
theorem dX11_person_8 : decode cX11_person 8 = .ok (.iconst (-1), 1) := by decide +kernel
theorem dX11_person_9 : decode cX11_person 9 = .ok (.ireturn, 1) := by decide +kernel
theorem dX11_person_10 : decode cX11_person 10 = .ok (.iload_n 2, 1) := by decide +kernel
theorem dX11_person_11 : decode cX11_person 11 = .ok (.tableswitch 103 0 5 #[37, 47, 57, 67, 77, 87], 37) := by decide +kernel
theorem dX11_person_48 : decode cX11_person 48 = .ok (.aload_n 0, 1) := by decide +kernel
theorem dX11_person_49 : decode cX11_person 49 = .ok (.getfield 50, 3) := by decide +kernel
theorem dX11_person_52 : decode cX11_person 52 = .ok (.getfield 149, 3) := by decide +kernel
theorem dX11_person_55 : decode cX11_person 55 = .ok (.iload_n 1, 1) := by decide +kernel
theorem dX11_person_56 : decode cX11_person 56 = .ok (.iaload, 1) := by decide +kernel
theorem dX11_person_57 : decode cX11_person 57 = .ok (.ireturn, 1) := by decide +kernel
theorem dX11_person_58 : decode cX11_person 58 = .ok (.aload_n 0, 1) := by decide +kernel
theorem dX11_person_59 : decode cX11_person 59 = .ok (.getfield 50, 3) := by decide +kernel
theorem dX11_person_62 : decode cX11_person 62 = .ok (.getfield 152, 3) := by decide +kernel
theorem dX11_person_65 : decode cX11_person 65 = .ok (.iload_n 1, 1) := by decide +kernel
theorem dX11_person_66 : decode cX11_person 66 = .ok (.iaload, 1) := by decide +kernel
theorem dX11_person_67 : decode cX11_person 67 = .ok (.ireturn, 1) := by decide +kernel
theorem dX11_person_68 : decode cX11_person 68 = .ok (.aload_n 0, 1) := by decide +kernel
theorem dX11_person_69 : decode cX11_person 69 = .ok (.getfield 66, 3) := by decide +kernel
theorem dX11_person_72 : decode cX11_person 72 = .ok (.getfield 207, 3) := by decide +kernel
theorem dX11_person_75 : decode cX11_person 75 = .ok (.iload_n 1, 1) := by decide +kernel
theorem dX11_person_76 : decode cX11_person 76 = .ok (.iaload, 1) := by decide +kernel
theorem dX11_person_77 : decode cX11_person 77 = .ok (.ireturn, 1) := by decide +kernel
theorem dX11_person_78 : decode cX11_person 78 = .ok (.aload_n 0, 1) := by decide +kernel
theorem dX11_person_79 : decode cX11_person 79 = .ok (.getfield 66, 3) := by decide +kernel
theorem dX11_person_82 : decode cX11_person 82 = .ok (.getfield 210, 3) := by decide +kernel
theorem dX11_person_85 : decode cX11_person 85 = .ok (.iload_n 1, 1) := by decide +kernel
theorem dX11_person_86 : decode cX11_person 86 = .ok (.iaload, 1) := by decide +kernel
theorem dX11_person_87 : decode cX11_person 87 = .ok (.ireturn, 1) := by decide +kernel
theorem dX11_person_88 : decode cX11_person 88 = .ok (.aload_n 0, 1) := by decide +kernel
theorem dX11_person_89 : decode cX11_person 89 = .ok (.getfield 50, 3) := by decide +kernel
theorem dX11_person_92 : decode cX11_person 92 = .ok (.getfield 213, 3) := by decide +kernel
theorem dX11_person_95 : decode cX11_person 95 = .ok (.iload_n 1, 1) := by decide +kernel
theorem dX11_person_96 : decode cX11_person 96 = .ok (.iaload, 1) := by decide +kernel
theorem dX11_person_97 : decode cX11_person 97 = .ok (.ireturn, 1) := by decide +kernel
theorem dX11_person_98 : decode cX11_person 98 = .ok (.aload_n 0, 1) := by decide +kernel
theorem dX11_person_99 : decode cX11_person 99 = .ok (.getfield 80, 3) := by decide +kernel
theorem dX11_person_102 : decode cX11_person 102 = .ok (.aload_n 0, 1) := by decide +kernel
theorem dX11_person_103 : decode cX11_person 103 = .ok (.getfield 66, 3) := by decide +kernel
theorem dX11_person_106 : decode cX11_person 106 = .ok (.iload_n 1, 1) := by decide +kernel
theorem dX11_person_107 : decode cX11_person 107 = .ok (.invokevirtual 216, 3) := by decide +kernel
theorem dX11_person_110 : decode cX11_person 110 = .ok (.invokestatic 220, 3) := by decide +kernel
theorem dX11_person_113 : decode cX11_person 113 = .ok (.ireturn, 1) := by decide +kernel
theorem dX11_person_114 : decode cX11_person 114 = .ok (.iconst (-1), 1) := by decide +kernel
theorem dX11_person_115 : decode cX11_person 115 = .ok (.ireturn, 1) := by decide +kernel
theorem dX11_see_0 : decode cX11_see 0 = .ok (.aload_n 0, 1) := by decide +kernel
theorem dX11_see_1 : decode cX11_see 1 = .ok (.getfield 89, 3) := by decide +kernel
theorem dX11_see_4 : decode cX11_see 4 = .ok (.aload_n 0, 1) := by decide +kernel
theorem dX11_see_5 : decode cX11_see 5 = .ok (.getfield 16, 3) := by decide +kernel
theorem dX11_see_8 : decode cX11_see 8 = .ok (.invokevirtual 306, 3) := by decide +kernel
theorem dX11_see_11 : decode cX11_see 11 = .ok (.istore_n 1, 1) := by decide +kernel
theorem dX11_see_12 : decode cX11_see 12 = .ok (.aload_n 0, 1) := by decide +kernel
theorem dX11_see_13 : decode cX11_see 13 = .ok (.getfield 16, 3) := by decide +kernel
theorem dX11_see_16 : decode cX11_see 16 = .ok (.iconst 0, 1) := by decide +kernel
theorem dX11_see_17 : decode cX11_see 17 = .ok (.putfield 119, 3) := by decide +kernel
theorem dX11_see_20 : decode cX11_see 20 = .ok (.iload_n 1, 1) := by decide +kernel
theorem dX11_see_21 : decode cX11_see 21 = .ok (.iconst (-1), 1) := by decide +kernel
theorem dX11_see_22 : decode cX11_see 22 = .ok (.if_icmp .ne 11, 3) := by decide +kernel
theorem dX11_see_25 : decode cX11_see 25 = .ok (.aload_n 0, 1) := by decide +kernel
theorem dX11_see_26 : decode cX11_see 26 = .ok (.iconst 1, 1) := by decide +kernel
theorem dX11_see_27 : decode cX11_see 27 = .ok (.invokevirtual 122, 3) := by decide +kernel
theorem dX11_see_30 : decode cX11_see 30 = .ok (.goto 4, 3) := by decide +kernel
theorem dX11_see_33 : decode cX11_see 33 = .ok (.iload_n 1, 1) := by decide +kernel
theorem dX11_see_34 : decode cX11_see 34 = .ok (.ireturn, 1) := by decide +kernel
theorem dX11_seed_0 : decode cX11_seed 0 = .ok (.iload_n 1, 1) := by decide +kernel
theorem dX11_seed_1 : decode cX11_seed 1 = .ok (.ifCond .ge 11, 3) := by decide +kernel
theorem dX11_seed_4 : decode cX11_seed 4 = .ok (.aload_n 0, 1) := by decide +kernel
theorem dX11_seed_5 : decode cX11_seed 5 = .ok (.iconst 5, 1) := by decide +kernel
theorem dX11_seed_6 : decode cX11_seed 6 = .ok (.invokevirtual 122, 3) := by decide +kernel
theorem dX11_seed_9 : decode cX11_seed 9 = .ok (.pop, 1) := by decide +kernel
theorem dX11_seed_10 : decode cX11_seed 10 = .ok (.iconst 0, 1) := by decide +kernel
theorem dX11_seed_11 : decode cX11_seed 11 = .ok (.ireturn, 1) := by decide +kernel
theorem dX11_seed_12 : decode cX11_seed 12 = .ok (.aload_n 0, 1) := by decide +kernel
theorem dX11_seed_13 : decode cX11_seed 13 = .ok (.iload_n 1, 1) := by decide +kernel
theorem dX11_seed_14 : decode cX11_seed 14 = .ok (.putfield 110, 3) := by decide +kernel
theorem dX11_seed_17 : decode cX11_seed 17 = .ok (.iconst 1, 1) := by decide +kernel
theorem dX11_seed_18 : decode cX11_seed 18 = .ok (.ireturn, 1) := by decide +kernel
theorem dX11_serve_0 : decode cX11_serve 0 = .ok (.aload_n 0, 1) := by decide +kernel
theorem dX11_serve_1 : decode cX11_serve 1 = .ok (.iload_n 1, 1) := by decide +kernel
theorem dX11_serve_2 : decode cX11_serve 2 = .ok (.invokevirtual 200, 3) := by decide +kernel
theorem dX11_serve_5 : decode cX11_serve 5 = .ok (.ifCond .eq 26, 3) := by decide +kernel
theorem dX11_serve_8 : decode cX11_serve 8 = .ok (.aload_n 0, 1) := by decide +kernel
theorem dX11_serve_9 : decode cX11_serve 9 = .ok (.getfield 50, 3) := by decide +kernel
theorem dX11_serve_12 : decode cX11_serve 12 = .ok (.iload_n 1, 1) := by decide +kernel
theorem dX11_serve_13 : decode cX11_serve 13 = .ok (.iload_n 2, 1) := by decide +kernel
theorem dX11_serve_14 : decode cX11_serve 14 = .ok (.invokevirtual 329, 3) := by decide +kernel
theorem dX11_serve_17 : decode cX11_serve 17 = .ok (.ifCond .eq 14, 3) := by decide +kernel
theorem dX11_serve_20 : decode cX11_serve 20 = .ok (.aload_n 0, 1) := by decide +kernel
theorem dX11_serve_21 : decode cX11_serve 21 = .ok (.getfield 66, 3) := by decide +kernel
theorem dX11_serve_24 : decode cX11_serve 24 = .ok (.iload_n 2, 1) := by decide +kernel
theorem dX11_serve_25 : decode cX11_serve 25 = .ok (.invokevirtual 332, 3) := by decide +kernel
theorem dX11_serve_28 : decode cX11_serve 28 = .ok (.ifCond .ne 11, 3) := by decide +kernel
theorem dX11_serve_31 : decode cX11_serve 31 = .ok (.aload_n 0, 1) := by decide +kernel
theorem dX11_serve_32 : decode cX11_serve 32 = .ok (.iconst 2, 1) := by decide +kernel
theorem dX11_serve_33 : decode cX11_serve 33 = .ok (.invokevirtual 122, 3) := by decide +kernel
theorem dX11_serve_36 : decode cX11_serve 36 = .ok (.pop, 1) := by decide +kernel
theorem dX11_serve_37 : decode cX11_serve 37 = .ok (.iconst 0, 1) := by decide +kernel
theorem dX11_serve_38 : decode cX11_serve 38 = .ok (.ireturn, 1) := by decide +kernel
theorem dX11_serve_39 : decode cX11_serve 39 = .ok (.aload_n 0, 1) := by decide +kernel
theorem dX11_serve_40 : decode cX11_serve 40 = .ok (.getfield 73, 3) := by decide +kernel
theorem dX11_serve_43 : decode cX11_serve 43 = .ok (.aload_n 0, 1) := by decide +kernel
theorem dX11_serve_44 : decode cX11_serve 44 = .ok (.getfield 66, 3) := by decide +kernel
theorem dX11_serve_47 : decode cX11_serve 47 = .ok (.invokevirtual 325, 3) := by decide +kernel
theorem dX11_serve_50 : decode cX11_serve 50 = .ok (.aload_n 0, 1) := by decide +kernel
theorem dX11_serve_51 : decode cX11_serve 51 = .ok (.getfield 66, 3) := by decide +kernel
theorem dX11_serve_54 : decode cX11_serve 54 = .ok (.iload_n 1, 1) := by decide +kernel
theorem dX11_serve_55 : decode cX11_serve 55 = .ok (.iload_n 2, 1) := by decide +kernel
theorem dX11_serve_56 : decode cX11_serve 56 = .ok (.invokevirtual 335, 3) := by decide +kernel
theorem dX11_serve_59 : decode cX11_serve 59 = .ok (.iconst 1, 1) := by decide +kernel
theorem dX11_serve_60 : decode cX11_serve 60 = .ok (.ireturn, 1) := by decide +kernel
theorem dX11_served_0 : decode cX11_served 0 = .ok (.aload_n 0, 1) := by decide +kernel
theorem dX11_served_1 : decode cX11_served 1 = .ok (.iload_n 1, 1) := by decide +kernel
theorem dX11_served_2 : decode cX11_served 2 = .ok (.invokevirtual 200, 3) := by decide +kernel
theorem dX11_served_5 : decode cX11_served 5 = .ok (.ifCond .eq 14, 3) := by decide +kernel
theorem dX11_served_8 : decode cX11_served 8 = .ok (.aload_n 0, 1) := by decide +kernel
theorem dX11_served_9 : decode cX11_served 9 = .ok (.getfield 89, 3) := by decide +kernel
theorem dX11_served_12 : decode cX11_served 12 = .ok (.iload_n 1, 1) := by decide +kernel
theorem dX11_served_13 : decode cX11_served 13 = .ok (.invokevirtual 284, 3) := by decide +kernel
theorem dX11_served_16 : decode cX11_served 16 = .ok (.goto 4, 3) := by decide +kernel
theorem dX11_served_19 : decode cX11_served 19 = .ok (.iconst (-1), 1) := by decide +kernel
theorem dX11_served_20 : decode cX11_served 20 = .ok (.ireturn, 1) := by decide +kernel
theorem dX11_shortest_0 : decode cX11_shortest 0 = .ok (.aload_n 0, 1) := by decide +kernel
theorem dX11_shortest_1 : decode cX11_shortest 1 = .ok (.iload_n 1, 1) := by decide +kernel
theorem dX11_shortest_2 : decode cX11_shortest 2 = .ok (.iload_n 2, 1) := by decide +kernel
theorem dX11_shortest_3 : decode cX11_shortest 3 = .ok (.invokevirtual 233, 3) := by decide +kernel
theorem dX11_shortest_6 : decode cX11_shortest 6 = .ok (.ifCond .eq 25, 3) := by decide +kernel
theorem dX11_shortest_9 : decode cX11_shortest 9 = .ok (.aload_n 0, 1) := by decide +kernel
theorem dX11_shortest_10 : decode cX11_shortest 10 = .ok (.getfield 59, 3) := by decide +kernel
theorem dX11_shortest_13 : decode cX11_shortest 13 = .ok (.aload_n 0, 1) := by decide +kernel
theorem dX11_shortest_14 : decode cX11_shortest 14 = .ok (.getfield 59, 3) := by decide +kernel
theorem dX11_shortest_17 : decode cX11_shortest 17 = .ok (.iload_n 1, 1) := by decide +kernel
theorem dX11_shortest_18 : decode cX11_shortest 18 = .ok (.iload_n 2, 1) := by decide +kernel
theorem dX11_shortest_19 : decode cX11_shortest 19 = .ok (.invokevirtual 155, 3) := by decide +kernel
theorem dX11_shortest_22 : decode cX11_shortest 22 = .ok (.invokevirtual 243, 3) := by decide +kernel
theorem dX11_shortest_25 : decode cX11_shortest 25 = .ok (.invokestatic 220, 3) := by decide +kernel
theorem dX11_shortest_28 : decode cX11_shortest 28 = .ok (.goto 4, 3) := by decide +kernel
theorem dX11_shortest_31 : decode cX11_shortest 31 = .ok (.iconst (-1), 1) := by decide +kernel
theorem dX11_shortest_32 : decode cX11_shortest 32 = .ok (.ireturn, 1) := by decide +kernel
theorem dX11_status_0 : decode cX11_status 0 = .ok (.iload_n 1, 1) := by decide +kernel
theorem dX11_status_1 : decode cX11_status 1 = .ok (.ifCond .lt 21, 3) := by decide +kernel
theorem dX11_status_4 : decode cX11_status 4 = .ok (.iload_n 1, 1) := by decide +kernel
theorem dX11_status_5 : decode cX11_status 5 = .ok (.aload_n 0, 1) := by decide +kernel
theorem dX11_status_6 : decode cX11_status 6 = .ok (.getfield 7, 3) := by decide +kernel
theorem dX11_status_9 : decode cX11_status 9 = .ok (.arraylength, 1) := by decide +kernel
theorem dX11_status_10 : decode cX11_status 10 = .ok (.if_icmp .ge 12, 3) := by decide +kernel
theorem dX11_status_13 : decode cX11_status 13 = .ok (.aload_n 0, 1) := by decide +kernel
theorem dX11_status_14 : decode cX11_status 14 = .ok (.getfield 7, 3) := by decide +kernel
theorem dX11_status_17 : decode cX11_status 17 = .ok (.iload_n 1, 1) := by decide +kernel
theorem dX11_status_18 : decode cX11_status 18 = .ok (.iaload, 1) := by decide +kernel
theorem dX11_status_19 : decode cX11_status 19 = .ok (.goto 4, 3) := by decide +kernel
theorem dX11_status_22 : decode cX11_status 22 = .ok (.iconst (-1), 1) := by decide +kernel
theorem dX11_status_23 : decode cX11_status 23 = .ok (.ireturn, 1) := by decide +kernel
theorem dX11_stock_0 : decode cX11_stock 0 = .ok (.aload_n 0, 1) := by decide +kernel
theorem dX11_stock_1 : decode cX11_stock 1 = .ok (.iload_n 1, 1) := by decide +kernel
theorem dX11_stock_2 : decode cX11_stock 2 = .ok (.invokevirtual 223, 3) := by decide +kernel
theorem dX11_stock_5 : decode cX11_stock 5 = .ok (.ifCond .eq 15, 3) := by decide +kernel
theorem dX11_stock_8 : decode cX11_stock 8 = .ok (.aload_n 0, 1) := by decide +kernel
theorem dX11_stock_9 : decode cX11_stock 9 = .ok (.getfield 66, 3) := by decide +kernel
theorem dX11_stock_12 : decode cX11_stock 12 = .ok (.getfield 226, 3) := by decide +kernel
theorem dX11_stock_15 : decode cX11_stock 15 = .ok (.iload_n 1, 1) := by decide +kernel
theorem dX11_stock_16 : decode cX11_stock 16 = .ok (.iaload, 1) := by decide +kernel
theorem dX11_stock_17 : decode cX11_stock 17 = .ok (.goto 4, 3) := by decide +kernel
theorem dX11_stock_20 : decode cX11_stock 20 = .ok (.iconst (-1), 1) := by decide +kernel
theorem dX11_stock_21 : decode cX11_stock 21 = .ok (.ireturn, 1) := by decide +kernel
theorem dX11_stocks_0 : decode cX11_stocks 0 = .ok (.aload_n 0, 1) := by decide +kernel
theorem dX11_stocks_1 : decode cX11_stocks 1 = .ok (.iload_n 1, 1) := by decide +kernel
theorem dX11_stocks_2 : decode cX11_stocks 2 = .ok (.invokevirtual 223, 3) := by decide +kernel
theorem dX11_stocks_5 : decode cX11_stocks 5 = .ok (.ifCond .eq 14, 3) := by decide +kernel
theorem dX11_stocks_8 : decode cX11_stocks 8 = .ok (.aload_n 0, 1) := by decide +kernel
theorem dX11_stocks_9 : decode cX11_stocks 9 = .ok (.getfield 89, 3) := by decide +kernel
theorem dX11_stocks_12 : decode cX11_stocks 12 = .ok (.iload_n 1, 1) := by decide +kernel
theorem dX11_stocks_13 : decode cX11_stocks 13 = .ok (.invokevirtual 310, 3) := by decide +kernel
theorem dX11_stocks_16 : decode cX11_stocks 16 = .ok (.goto 4, 3) := by decide +kernel
theorem dX11_stocks_19 : decode cX11_stocks 19 = .ok (.iconst (-1), 1) := by decide +kernel
theorem dX11_stocks_20 : decode cX11_stocks 20 = .ok (.ireturn, 1) := by decide +kernel
theorem dX11_tells_0 : decode cX11_tells 0 = .ok (.aload_n 0, 1) := by decide +kernel
theorem dX11_tells_1 : decode cX11_tells 1 = .ok (.iload_n 1, 1) := by decide +kernel
theorem dX11_tells_2 : decode cX11_tells 2 = .ok (.invokevirtual 223, 3) := by decide +kernel
theorem dX11_tells_5 : decode cX11_tells 5 = .ok (.ifCond .eq 23, 3) := by decide +kernel
theorem dX11_tells_8 : decode cX11_tells 8 = .ok (.iload_n 2, 1) := by decide +kernel
theorem dX11_tells_9 : decode cX11_tells 9 = .ok (.ifCond .lt 19, 3) := by decide +kernel
theorem dX11_tells_12 : decode cX11_tells 12 = .ok (.iload_n 2, 1) := by decide +kernel
theorem dX11_tells_13 : decode cX11_tells 13 = .ok (.iconst 2, 1) := by decide +kernel
theorem dX11_tells_14 : decode cX11_tells 14 = .ok (.if_icmp .gt 14, 3) := by decide +kernel
theorem dX11_tells_17 : decode cX11_tells 17 = .ok (.aload_n 0, 1) := by decide +kernel
theorem dX11_tells_18 : decode cX11_tells 18 = .ok (.getfield 89, 3) := by decide +kernel
theorem dX11_tells_21 : decode cX11_tells 21 = .ok (.iload_n 1, 1) := by decide +kernel
theorem dX11_tells_22 : decode cX11_tells 22 = .ok (.invokevirtual 313, 3) := by decide +kernel
theorem dX11_tells_25 : decode cX11_tells 25 = .ok (.ifCond .ne 5, 3) := by decide +kernel
theorem dX11_tells_28 : decode cX11_tells 28 = .ok (.iconst (-1), 1) := by decide +kernel
theorem dX11_tells_29 : decode cX11_tells 29 = .ok (.ireturn, 1) := by decide +kernel
theorem dX11_tells_30 : decode cX11_tells 30 = .ok (.iload_n 2, 1) := by decide +kernel
theorem dX11_tells_31 : decode cX11_tells 31 = .ok (.iconst 2, 1) := by decide +kernel
theorem dX11_tells_32 : decode cX11_tells 32 = .ok (.if_icmp .ne 11, 3) := by decide +kernel
theorem dX11_tells_35 : decode cX11_tells 35 = .ok (.aload_n 0, 1) := by decide +kernel
theorem dX11_tells_36 : decode cX11_tells 36 = .ok (.getfield 89, 3) := by decide +kernel
theorem dX11_tells_39 : decode cX11_tells 39 = .ok (.getfield 316, 3) := by decide +kernel
theorem dX11_tells_42 : decode cX11_tells 42 = .ok (.ireturn, 1) := by decide +kernel
theorem dX11_tells_43 : decode cX11_tells 43 = .ok (.iload_n 2, 1) := by decide +kernel
theorem dX11_tells_44 : decode cX11_tells 44 = .ok (.ifCond .ne 13, 3) := by decide +kernel
theorem dX11_tells_47 : decode cX11_tells 47 = .ok (.aload_n 0, 1) := by decide +kernel
theorem dX11_tells_48 : decode cX11_tells 48 = .ok (.getfield 89, 3) := by decide +kernel
theorem dX11_tells_51 : decode cX11_tells 51 = .ok (.getfield 319, 3) := by decide +kernel
theorem dX11_tells_54 : decode cX11_tells 54 = .ok (.goto 10, 3) := by decide +kernel
theorem dX11_tells_57 : decode cX11_tells 57 = .ok (.aload_n 0, 1) := by decide +kernel
theorem dX11_tells_58 : decode cX11_tells 58 = .ok (.getfield 89, 3) := by decide +kernel
theorem dX11_tells_61 : decode cX11_tells 61 = .ok (.getfield 322, 3) := by decide +kernel
theorem dX11_tells_64 : decode cX11_tells 64 = .ok (.ireturn, 1) := by decide +kernel
theorem dX11_undo_0 : decode cX11_undo 0 = .ok (.aload_n 0, 1) := by decide +kernel
theorem dX11_undo_1 : decode cX11_undo 1 = .ok (.getfield 73, 3) := by decide +kernel
theorem dX11_undo_4 : decode cX11_undo 4 = .ok (.aload_n 0, 1) := by decide +kernel
theorem dX11_undo_5 : decode cX11_undo 5 = .ok (.getfield 66, 3) := by decide +kernel
theorem dX11_undo_8 : decode cX11_undo 8 = .ok (.invokevirtual 360, 3) := by decide +kernel
theorem dX11_undo_11 : decode cX11_undo 11 = .ok (.ifCond .ne 11, 3) := by decide +kernel
theorem dX11_undo_14 : decode cX11_undo 14 = .ok (.aload_n 0, 1) := by decide +kernel
theorem dX11_undo_15 : decode cX11_undo 15 = .ok (.iconst 4, 1) := by decide +kernel
theorem dX11_undo_16 : decode cX11_undo 16 = .ok (.invokevirtual 122, 3) := by decide +kernel
theorem dX11_undo_19 : decode cX11_undo 19 = .ok (.pop, 1) := by decide +kernel
theorem dX11_undo_20 : decode cX11_undo 20 = .ok (.iconst 0, 1) := by decide +kernel
theorem dX11_undo_21 : decode cX11_undo 21 = .ok (.ireturn, 1) := by decide +kernel
theorem dX11_undo_22 : decode cX11_undo 22 = .ok (.iconst 1, 1) := by decide +kernel
theorem dX11_undo_23 : decode cX11_undo 23 = .ok (.ireturn, 1) := by decide +kernel
theorem dX11_writing_0 : decode cX11_writing 0 = .ok (.aload_n 0, 1) := by decide +kernel
theorem dX11_writing_1 : decode cX11_writing 1 = .ok (.iload_n 1, 1) := by decide +kernel
theorem dX11_writing_2 : decode cX11_writing 2 = .ok (.iload_n 2, 1) := by decide +kernel
theorem dX11_writing_3 : decode cX11_writing 3 = .ok (.invokevirtual 237, 3) := by decide +kernel
theorem dX11_writing_6 : decode cX11_writing 6 = .ok (.istore 4, 2) := by decide +kernel
theorem dX11_writing_8 : decode cX11_writing 8 = .ok (.iload_n 3, 1) := by decide +kernel
theorem dX11_writing_9 : decode cX11_writing 9 = .ok (.ifCond .lt 21, 3) := by decide +kernel
theorem dX11_writing_12 : decode cX11_writing 12 = .ok (.iload_n 3, 1) := by decide +kernel
theorem dX11_writing_13 : decode cX11_writing 13 = .ok (.iload 4, 2) := by decide +kernel
theorem dX11_writing_15 : decode cX11_writing 15 = .ok (.if_icmp .ge 15, 3) := by decide +kernel
theorem dX11_writing_18 : decode cX11_writing 18 = .ok (.aload_n 0, 1) := by decide +kernel
theorem dX11_writing_19 : decode cX11_writing 19 = .ok (.getfield 59, 3) := by decide +kernel
theorem dX11_writing_22 : decode cX11_writing 22 = .ok (.getfield 163, 3) := by decide +kernel
theorem dX11_writing_25 : decode cX11_writing 25 = .ok (.iload_n 3, 1) := by decide +kernel
theorem dX11_writing_26 : decode cX11_writing 26 = .ok (.iaload, 1) := by decide +kernel
theorem dX11_writing_27 : decode cX11_writing 27 = .ok (.goto 4, 3) := by decide +kernel
theorem dX11_writing_30 : decode cX11_writing 30 = .ok (.iconst (-1), 1) := by decide +kernel
theorem dX11_writing_31 : decode cX11_writing 31 = .ok (.ireturn, 1) := by decide +kernel
theorem dX12_isIn_0 : decode cX12_isIn 0 = .ok (.lload_n 0, 1) := by decide +kernel
theorem dX12_isIn_1 : decode cX12_isIn 1 = .ok (.lload_n 2, 1) := by decide +kernel
theorem dX12_isIn_2 : decode cX12_isIn 2 = .ok (.lcmp, 1) := by decide +kernel
theorem dX12_isIn_3 : decode cX12_isIn 3 = .ok (.ifCond .lt 14, 3) := by decide +kernel
theorem dX12_isIn_6 : decode cX12_isIn 6 = .ok (.lload_n 0, 1) := by decide +kernel
theorem dX12_isIn_7 : decode cX12_isIn 7 = .ok (.lload 4, 2) := by decide +kernel
theorem dX12_isIn_9 : decode cX12_isIn 9 = .ok (.lcmp, 1) := by decide +kernel
theorem dX12_isIn_10 : decode cX12_isIn 10 = .ok (.ifCond .gt 7, 3) := by decide +kernel
theorem dX12_isIn_13 : decode cX12_isIn 13 = .ok (.iconst 1, 1) := by decide +kernel
theorem dX12_isIn_14 : decode cX12_isIn 14 = .ok (.goto 4, 3) := by decide +kernel
theorem dX12_isIn_17 : decode cX12_isIn 17 = .ok (.iconst 0, 1) := by decide +kernel
theorem dX12_isIn_18 : decode cX12_isIn 18 = .ok (.ireturn, 1) := by decide +kernel
theorem dX12_finest_0 : decode cX12_finest 0 = .ok (.aload_n 0, 1) := by decide +kernel
theorem dX12_finest_1 : decode cX12_finest 1 = .ok (.getfield 105, 3) := by decide +kernel
theorem dX12_finest_4 : decode cX12_finest 4 = .ok (.iconst 5, 1) := by decide +kernel
theorem dX12_finest_5 : decode cX12_finest 5 = .ok (.iaload, 1) := by decide +kernel
theorem dX12_finest_6 : decode cX12_finest 6 = .ok (.ireturn, 1) := by decide +kernel
theorem dX12_isSet_0 : decode cX12_isSet 0 = .ok (.iload_n 1, 1) := by decide +kernel
theorem dX12_isSet_1 : decode cX12_isSet 1 = .ok (.ifCond .le 17, 3) := by decide +kernel
theorem dX12_isSet_4 : decode cX12_isSet 4 = .ok (.iload_n 1, 1) := by decide +kernel
theorem dX12_isSet_5 : decode cX12_isSet 5 = .ok (.iconst 1, 1) := by decide +kernel
theorem dX12_isSet_6 : decode cX12_isSet 6 = .ok (.aload_n 0, 1) := by decide +kernel
theorem dX12_isSet_7 : decode cX12_isSet 7 = .ok (.invokevirtual 396, 3) := by decide +kernel
theorem dX12_isSet_10 : decode cX12_isSet 10 = .ok (.ishl, 1) := by decide +kernel
theorem dX12_isSet_11 : decode cX12_isSet 11 = .ok (.if_icmp .ge 7, 3) := by decide +kernel
theorem dX12_isSet_14 : decode cX12_isSet 14 = .ok (.iconst 1, 1) := by decide +kernel
theorem dX12_isSet_15 : decode cX12_isSet 15 = .ok (.goto 4, 3) := by decide +kernel
theorem dX12_isSet_18 : decode cX12_isSet 18 = .ok (.iconst 0, 1) := by decide +kernel
theorem dX12_isSet_19 : decode cX12_isSet 19 = .ok (.ireturn, 1) := by decide +kernel
theorem dX12_isOf_0 : decode cX12_isOf 0 = .ok (.iload_n 0, 1) := by decide +kernel
theorem dX12_isOf_1 : decode cX12_isOf 1 = .ok (.iload_n 1, 1) := by decide +kernel
theorem dX12_isOf_2 : decode cX12_isOf 2 = .ok (.iconst 1, 1) := by decide +kernel
theorem dX12_isOf_3 : decode cX12_isOf 3 = .ok (.isub, 1) := by decide +kernel
theorem dX12_isOf_4 : decode cX12_isOf 4 = .ok (.ishr, 1) := by decide +kernel
theorem dX12_isOf_5 : decode cX12_isOf 5 = .ok (.iconst 1, 1) := by decide +kernel
theorem dX12_isOf_6 : decode cX12_isOf 6 = .ok (.iand, 1) := by decide +kernel
theorem dX12_isOf_7 : decode cX12_isOf 7 = .ok (.iconst 1, 1) := by decide +kernel
theorem dX12_isOf_8 : decode cX12_isOf 8 = .ok (.if_icmp .ne 7, 3) := by decide +kernel
theorem dX12_isOf_11 : decode cX12_isOf 11 = .ok (.iconst 1, 1) := by decide +kernel
theorem dX12_isOf_12 : decode cX12_isOf 12 = .ok (.goto 4, 3) := by decide +kernel
theorem dX12_isOf_15 : decode cX12_isOf 15 = .ok (.iconst 0, 1) := by decide +kernel
theorem dX12_isOf_16 : decode cX12_isOf 16 = .ok (.ireturn, 1) := by decide +kernel
theorem dX12_madeBy_0 : decode cX12_madeBy 0 = .ok (.lconst 0, 1) := by decide +kernel
theorem dX12_madeBy_1 : decode cX12_madeBy 1 = .ok (.lstore_n 2, 1) := by decide +kernel
theorem dX12_madeBy_2 : decode cX12_madeBy 2 = .ok (.iconst 1, 1) := by decide +kernel
theorem dX12_madeBy_3 : decode cX12_madeBy 3 = .ok (.istore 4, 2) := by decide +kernel
theorem dX12_madeBy_5 : decode cX12_madeBy 5 = .ok (.iload 4, 2) := by decide +kernel
theorem dX12_madeBy_7 : decode cX12_madeBy 7 = .ok (.aload_n 0, 1) := by decide +kernel
theorem dX12_madeBy_8 : decode cX12_madeBy 8 = .ok (.invokevirtual 396, 3) := by decide +kernel
theorem dX12_madeBy_11 : decode cX12_madeBy 11 = .ok (.if_icmp .gt 28, 3) := by decide +kernel
theorem dX12_madeBy_14 : decode cX12_madeBy 14 = .ok (.iload_n 1, 1) := by decide +kernel
theorem dX12_madeBy_15 : decode cX12_madeBy 15 = .ok (.iload 4, 2) := by decide +kernel
theorem dX12_madeBy_17 : decode cX12_madeBy 17 = .ok (.invokestatic 433, 3) := by decide +kernel
theorem dX12_madeBy_20 : decode cX12_madeBy 20 = .ok (.ifCond .eq 13, 3) := by decide +kernel
theorem dX12_madeBy_23 : decode cX12_madeBy 23 = .ok (.lload_n 2, 1) := by decide +kernel
theorem dX12_madeBy_24 : decode cX12_madeBy 24 = .ok (.ldc2_w 402, 3) := by decide +kernel
theorem dX12_madeBy_27 : decode cX12_madeBy 27 = .ok (.iload 4, 2) := by decide +kernel
theorem dX12_madeBy_29 : decode cX12_madeBy 29 = .ok (.i2l, 1) := by decide +kernel
theorem dX12_madeBy_30 : decode cX12_madeBy 30 = .ok (.ldiv, 1) := by decide +kernel
theorem dX12_madeBy_31 : decode cX12_madeBy 31 = .ok (.ladd, 1) := by decide +kernel
theorem dX12_madeBy_32 : decode cX12_madeBy 32 = .ok (.lstore_n 2, 1) := by decide +kernel
theorem dX12_madeBy_33 : decode cX12_madeBy 33 = .ok (.iinc 4 1, 3) := by decide +kernel
theorem dX12_madeBy_36 : decode cX12_madeBy 36 = .ok (.goto (-31), 3) := by decide +kernel
theorem dX12_madeBy_39 : decode cX12_madeBy 39 = .ok (.lload_n 2, 1) := by decide +kernel
theorem dX12_madeBy_40 : decode cX12_madeBy 40 = .ok (.lreturn, 1) := by decide +kernel
theorem dX12_mostParts_0 : decode cX12_mostParts 0 = .ok (.aload_n 0, 1) := by decide +kernel
theorem dX12_mostParts_1 : decode cX12_mostParts 1 = .ok (.getfield 383, 3) := by decide +kernel
theorem dX12_mostParts_4 : decode cX12_mostParts 4 = .ok (.ifCond .eq 13, 3) := by decide +kernel
theorem dX12_mostParts_7 : decode cX12_mostParts 7 = .ok (.aload_n 0, 1) := by decide +kernel
theorem dX12_mostParts_8 : decode cX12_mostParts 8 = .ok (.getfield 105, 3) := by decide +kernel
theorem dX12_mostParts_11 : decode cX12_mostParts 11 = .ok (.bipush 6, 2) := by decide +kernel
theorem dX12_mostParts_13 : decode cX12_mostParts 13 = .ok (.iaload, 1) := by decide +kernel
theorem dX12_mostParts_14 : decode cX12_mostParts 14 = .ok (.goto 4, 3) := by decide +kernel
theorem dX12_mostParts_17 : decode cX12_mostParts 17 = .ok (.iconst 4, 1) := by decide +kernel
theorem dX12_mostParts_18 : decode cX12_mostParts 18 = .ok (.ireturn, 1) := by decide +kernel
theorem dX12_rowSet_0 : decode cX12_rowSet 0 = .ok (.iconst 0, 1) := by decide +kernel
theorem dX12_rowSet_1 : decode cX12_rowSet 1 = .ok (.istore_n 2, 1) := by decide +kernel
theorem dX12_rowSet_2 : decode cX12_rowSet 2 = .ok (.iconst 0, 1) := by decide +kernel
theorem dX12_rowSet_3 : decode cX12_rowSet 3 = .ok (.istore_n 3, 1) := by decide +kernel
theorem dX12_rowSet_4 : decode cX12_rowSet 4 = .ok (.iload_n 3, 1) := by decide +kernel
theorem dX12_rowSet_5 : decode cX12_rowSet 5 = .ok (.iload_n 1, 1) := by decide +kernel
theorem dX12_rowSet_6 : decode cX12_rowSet 6 = .ok (.if_icmp .gt 22, 3) := by decide +kernel
theorem dX12_rowSet_9 : decode cX12_rowSet 9 = .ok (.iload_n 2, 1) := by decide +kernel
theorem dX12_rowSet_10 : decode cX12_rowSet 10 = .ok (.iconst 1, 1) := by decide +kernel
theorem dX12_rowSet_11 : decode cX12_rowSet 11 = .ok (.aload_n 0, 1) := by decide +kernel
theorem dX12_rowSet_12 : decode cX12_rowSet 12 = .ok (.getfield 133, 3) := by decide +kernel
theorem dX12_rowSet_15 : decode cX12_rowSet 15 = .ok (.iload_n 3, 1) := by decide +kernel
theorem dX12_rowSet_16 : decode cX12_rowSet 16 = .ok (.iaload, 1) := by decide +kernel
theorem dX12_rowSet_17 : decode cX12_rowSet 17 = .ok (.iconst 1, 1) := by decide +kernel
theorem dX12_rowSet_18 : decode cX12_rowSet 18 = .ok (.isub, 1) := by decide +kernel
theorem dX12_rowSet_19 : decode cX12_rowSet 19 = .ok (.ishl, 1) := by decide +kernel
theorem dX12_rowSet_20 : decode cX12_rowSet 20 = .ok (.ior, 1) := by decide +kernel
theorem dX12_rowSet_21 : decode cX12_rowSet 21 = .ok (.istore_n 2, 1) := by decide +kernel
theorem dX12_rowSet_22 : decode cX12_rowSet 22 = .ok (.iinc 3 1, 3) := by decide +kernel
theorem dX12_rowSet_25 : decode cX12_rowSet 25 = .ok (.goto (-21), 3) := by decide +kernel
theorem dX12_rowSet_28 : decode cX12_rowSet 28 = .ok (.iload_n 2, 1) := by decide +kernel
theorem dX12_rowSet_29 : decode cX12_rowSet 29 = .ok (.ireturn, 1) := by decide +kernel
theorem dX12_laysWritings_0 : decode cX12_laysWritings 0 = .ok (.aload_n 0, 1) := by decide +kernel
theorem dX12_laysWritings_1 : decode cX12_laysWritings 1 = .ok (.iconst 0, 1) := by decide +kernel
theorem dX12_laysWritings_2 : decode cX12_laysWritings 2 = .ok (.putfield 404, 3) := by decide +kernel
theorem dX12_laysWritings_5 : decode cX12_laysWritings 5 = .ok (.lload_n 1, 1) := by decide +kernel
theorem dX12_laysWritings_6 : decode cX12_laysWritings 6 = .ok (.lconst 0, 1) := by decide +kernel
theorem dX12_laysWritings_7 : decode cX12_laysWritings 7 = .ok (.lcmp, 1) := by decide +kernel
theorem dX12_laysWritings_8 : decode cX12_laysWritings 8 = .ok (.ifCond .le 7, 3) := by decide +kernel
theorem dX12_laysWritings_11 : decode cX12_laysWritings 11 = .ok (.iconst 0, 1) := by decide +kernel
theorem dX12_laysWritings_12 : decode cX12_laysWritings 12 = .ok (.goto 4, 3) := by decide +kernel
theorem dX12_laysWritings_15 : decode cX12_laysWritings 15 = .ok (.iconst (-1), 1) := by decide +kernel
theorem dX12_laysWritings_16 : decode cX12_laysWritings 16 = .ok (.istore_n 3, 1) := by decide +kernel
theorem dX12_laysWritings_17 : decode cX12_laysWritings 17 = .ok (.aload_n 0, 1) := by decide +kernel
theorem dX12_laysWritings_18 : decode cX12_laysWritings 18 = .ok (.getfield 133, 3) := by decide +kernel
theorem dX12_laysWritings_21 : decode cX12_laysWritings 21 = .ok (.iconst 0, 1) := by decide +kernel
theorem dX12_laysWritings_22 : decode cX12_laysWritings 22 = .ok (.iconst 0, 1) := by decide +kernel
theorem dX12_laysWritings_23 : decode cX12_laysWritings 23 = .ok (.iastore, 1) := by decide +kernel
theorem dX12_laysWritings_24 : decode cX12_laysWritings 24 = .ok (.aload_n 0, 1) := by decide +kernel
theorem dX12_laysWritings_25 : decode cX12_laysWritings 25 = .ok (.getfield 136, 3) := by decide +kernel
theorem dX12_laysWritings_28 : decode cX12_laysWritings 28 = .ok (.iconst 0, 1) := by decide +kernel
theorem dX12_laysWritings_29 : decode cX12_laysWritings 29 = .ok (.lload_n 1, 1) := by decide +kernel
theorem dX12_laysWritings_30 : decode cX12_laysWritings 30 = .ok (.lastore, 1) := by decide +kernel
theorem dX12_laysWritings_31 : decode cX12_laysWritings 31 = .ok (.iload_n 3, 1) := by decide +kernel
theorem dX12_laysWritings_32 : decode cX12_laysWritings 32 = .ok (.ifCond .lt 170, 3) := by decide +kernel
theorem dX12_laysWritings_35 : decode cX12_laysWritings 35 = .ok (.aload_n 0, 1) := by decide +kernel
theorem dX12_laysWritings_36 : decode cX12_laysWritings 36 = .ok (.getfield 133, 3) := by decide +kernel
theorem dX12_laysWritings_39 : decode cX12_laysWritings 39 = .ok (.iload_n 3, 1) := by decide +kernel
theorem dX12_laysWritings_40 : decode cX12_laysWritings 40 = .ok (.dup2, 1) := by decide +kernel
theorem dX12_laysWritings_41 : decode cX12_laysWritings 41 = .ok (.iaload, 1) := by decide +kernel
theorem dX12_laysWritings_42 : decode cX12_laysWritings 42 = .ok (.iconst 1, 1) := by decide +kernel
theorem dX12_laysWritings_43 : decode cX12_laysWritings 43 = .ok (.iadd, 1) := by decide +kernel
theorem dX12_laysWritings_44 : decode cX12_laysWritings 44 = .ok (.iastore, 1) := by decide +kernel
theorem dX12_laysWritings_45 : decode cX12_laysWritings 45 = .ok (.aload_n 0, 1) := by decide +kernel
theorem dX12_laysWritings_46 : decode cX12_laysWritings 46 = .ok (.getfield 133, 3) := by decide +kernel
theorem dX12_laysWritings_49 : decode cX12_laysWritings 49 = .ok (.iload_n 3, 1) := by decide +kernel
theorem dX12_laysWritings_50 : decode cX12_laysWritings 50 = .ok (.iaload, 1) := by decide +kernel
theorem dX12_laysWritings_51 : decode cX12_laysWritings 51 = .ok (.aload_n 0, 1) := by decide +kernel
theorem dX12_laysWritings_52 : decode cX12_laysWritings 52 = .ok (.invokevirtual 396, 3) := by decide +kernel
theorem dX12_laysWritings_55 : decode cX12_laysWritings 55 = .ok (.if_icmp .gt 32, 3) := by decide +kernel
theorem dX12_laysWritings_58 : decode cX12_laysWritings 58 = .ok (.aload_n 0, 1) := by decide +kernel
theorem dX12_laysWritings_59 : decode cX12_laysWritings 59 = .ok (.getfield 136, 3) := by decide +kernel
theorem dX12_laysWritings_62 : decode cX12_laysWritings 62 = .ok (.iload_n 3, 1) := by decide +kernel
theorem dX12_laysWritings_63 : decode cX12_laysWritings 63 = .ok (.laload, 1) := by decide +kernel
theorem dX12_laysWritings_64 : decode cX12_laysWritings 64 = .ok (.aload_n 0, 1) := by decide +kernel
theorem dX12_laysWritings_65 : decode cX12_laysWritings 65 = .ok (.invokevirtual 407, 3) := by decide +kernel
theorem dX12_laysWritings_68 : decode cX12_laysWritings 68 = .ok (.iload_n 3, 1) := by decide +kernel
theorem dX12_laysWritings_69 : decode cX12_laysWritings 69 = .ok (.isub, 1) := by decide +kernel
theorem dX12_laysWritings_70 : decode cX12_laysWritings 70 = .ok (.i2l, 1) := by decide +kernel
theorem dX12_laysWritings_71 : decode cX12_laysWritings 71 = .ok (.ldc2_w 402, 3) := by decide +kernel
theorem dX12_laysWritings_74 : decode cX12_laysWritings 74 = .ok (.aload_n 0, 1) := by decide +kernel
theorem dX12_laysWritings_75 : decode cX12_laysWritings 75 = .ok (.getfield 133, 3) := by decide +kernel
theorem dX12_laysWritings_78 : decode cX12_laysWritings 78 = .ok (.iload_n 3, 1) := by decide +kernel
theorem dX12_laysWritings_79 : decode cX12_laysWritings 79 = .ok (.iaload, 1) := by decide +kernel
theorem dX12_laysWritings_80 : decode cX12_laysWritings 80 = .ok (.i2l, 1) := by decide +kernel
theorem dX12_laysWritings_81 : decode cX12_laysWritings 81 = .ok (.ldiv, 1) := by decide +kernel
theorem dX12_laysWritings_82 : decode cX12_laysWritings 82 = .ok (.lmul, 1) := by decide +kernel
theorem dX12_laysWritings_83 : decode cX12_laysWritings 83 = .ok (.lcmp, 1) := by decide +kernel
theorem dX12_laysWritings_84 : decode cX12_laysWritings 84 = .ok (.ifCond .le 9, 3) := by decide +kernel
theorem dX12_laysWritings_87 : decode cX12_laysWritings 87 = .ok (.iinc 3 (-1), 3) := by decide +kernel
theorem dX12_laysWritings_90 : decode cX12_laysWritings 90 = .ok (.goto (-59), 3) := by decide +kernel
theorem dX12_laysWritings_93 : decode cX12_laysWritings 93 = .ok (.aload_n 0, 1) := by decide +kernel
theorem dX12_laysWritings_94 : decode cX12_laysWritings 94 = .ok (.getfield 136, 3) := by decide +kernel
theorem dX12_laysWritings_97 : decode cX12_laysWritings 97 = .ok (.iload_n 3, 1) := by decide +kernel
theorem dX12_laysWritings_98 : decode cX12_laysWritings 98 = .ok (.laload, 1) := by decide +kernel
theorem dX12_laysWritings_99 : decode cX12_laysWritings 99 = .ok (.ldc2_w 402, 3) := by decide +kernel
theorem dX12_laysWritings_102 : decode cX12_laysWritings 102 = .ok (.aload_n 0, 1) := by decide +kernel
theorem dX12_laysWritings_103 : decode cX12_laysWritings 103 = .ok (.getfield 133, 3) := by decide +kernel
theorem dX12_laysWritings_106 : decode cX12_laysWritings 106 = .ok (.iload_n 3, 1) := by decide +kernel
theorem dX12_laysWritings_107 : decode cX12_laysWritings 107 = .ok (.iaload, 1) := by decide +kernel
theorem dX12_laysWritings_108 : decode cX12_laysWritings 108 = .ok (.i2l, 1) := by decide +kernel
theorem dX12_laysWritings_109 : decode cX12_laysWritings 109 = .ok (.ldiv, 1) := by decide +kernel
theorem dX12_laysWritings_110 : decode cX12_laysWritings 110 = .ok (.lsub, 1) := by decide +kernel
theorem dX12_laysWritings_111 : decode cX12_laysWritings 111 = .ok (.lstore 4, 2) := by decide +kernel
theorem dX12_laysWritings_113 : decode cX12_laysWritings 113 = .ok (.lload 4, 2) := by decide +kernel
theorem dX12_laysWritings_115 : decode cX12_laysWritings 115 = .ok (.lconst 0, 1) := by decide +kernel
theorem dX12_laysWritings_116 : decode cX12_laysWritings 116 = .ok (.lcmp, 1) := by decide +kernel
theorem dX12_laysWritings_117 : decode cX12_laysWritings 117 = .ok (.ifCond .ne 37, 3) := by decide +kernel
theorem dX12_laysWritings_120 : decode cX12_laysWritings 120 = .ok (.aload_n 0, 1) := by decide +kernel
theorem dX12_laysWritings_121 : decode cX12_laysWritings 121 = .ok (.getfield 404, 3) := by decide +kernel
theorem dX12_laysWritings_124 : decode cX12_laysWritings 124 = .ok (.sipush 2000, 3) := by decide +kernel
theorem dX12_laysWritings_127 : decode cX12_laysWritings 127 = .ok (.if_icmp .ge 27, 3) := by decide +kernel
theorem dX12_laysWritings_130 : decode cX12_laysWritings 130 = .ok (.aload_n 0, 1) := by decide +kernel
theorem dX12_laysWritings_131 : decode cX12_laysWritings 131 = .ok (.getfield 130, 3) := by decide +kernel
theorem dX12_laysWritings_134 : decode cX12_laysWritings 134 = .ok (.aload_n 0, 1) := by decide +kernel
theorem dX12_laysWritings_135 : decode cX12_laysWritings 135 = .ok (.getfield 404, 3) := by decide +kernel
theorem dX12_laysWritings_138 : decode cX12_laysWritings 138 = .ok (.aload_n 0, 1) := by decide +kernel
theorem dX12_laysWritings_139 : decode cX12_laysWritings 139 = .ok (.iload_n 3, 1) := by decide +kernel
theorem dX12_laysWritings_140 : decode cX12_laysWritings 140 = .ok (.invokevirtual 410, 3) := by decide +kernel
theorem dX12_laysWritings_143 : decode cX12_laysWritings 143 = .ok (.iastore, 1) := by decide +kernel
theorem dX12_laysWritings_144 : decode cX12_laysWritings 144 = .ok (.aload_n 0, 1) := by decide +kernel
theorem dX12_laysWritings_145 : decode cX12_laysWritings 145 = .ok (.dup, 1) := by decide +kernel
theorem dX12_laysWritings_146 : decode cX12_laysWritings 146 = .ok (.getfield 404, 3) := by decide +kernel
theorem dX12_laysWritings_149 : decode cX12_laysWritings 149 = .ok (.iconst 1, 1) := by decide +kernel
theorem dX12_laysWritings_150 : decode cX12_laysWritings 150 = .ok (.iadd, 1) := by decide +kernel
theorem dX12_laysWritings_151 : decode cX12_laysWritings 151 = .ok (.putfield 404, 3) := by decide +kernel
theorem dX12_laysWritings_154 : decode cX12_laysWritings 154 = .ok (.lload 4, 2) := by decide +kernel
theorem dX12_laysWritings_156 : decode cX12_laysWritings 156 = .ok (.lconst 0, 1) := by decide +kernel
theorem dX12_laysWritings_157 : decode cX12_laysWritings 157 = .ok (.lcmp, 1) := by decide +kernel
theorem dX12_laysWritings_158 : decode cX12_laysWritings 158 = .ok (.ifCond .le (-127), 3) := by decide +kernel
theorem dX12_laysWritings_161 : decode cX12_laysWritings 161 = .ok (.iload_n 3, 1) := by decide +kernel
theorem dX12_laysWritings_162 : decode cX12_laysWritings 162 = .ok (.iconst 1, 1) := by decide +kernel
theorem dX12_laysWritings_163 : decode cX12_laysWritings 163 = .ok (.iadd, 1) := by decide +kernel
theorem dX12_laysWritings_164 : decode cX12_laysWritings 164 = .ok (.aload_n 0, 1) := by decide +kernel
theorem dX12_laysWritings_165 : decode cX12_laysWritings 165 = .ok (.invokevirtual 407, 3) := by decide +kernel
theorem dX12_laysWritings_168 : decode cX12_laysWritings 168 = .ok (.if_icmp .ne 6, 3) := by decide +kernel
theorem dX12_laysWritings_171 : decode cX12_laysWritings 171 = .ok (.goto (-140), 3) := by decide +kernel
theorem dX12_laysWritings_174 : decode cX12_laysWritings 174 = .ok (.iinc 3 1, 3) := by decide +kernel
theorem dX12_laysWritings_177 : decode cX12_laysWritings 177 = .ok (.aload_n 0, 1) := by decide +kernel
theorem dX12_laysWritings_178 : decode cX12_laysWritings 178 = .ok (.getfield 133, 3) := by decide +kernel
theorem dX12_laysWritings_181 : decode cX12_laysWritings 181 = .ok (.iload_n 3, 1) := by decide +kernel
theorem dX12_laysWritings_182 : decode cX12_laysWritings 182 = .ok (.aload_n 0, 1) := by decide +kernel
theorem dX12_laysWritings_183 : decode cX12_laysWritings 183 = .ok (.getfield 133, 3) := by decide +kernel
theorem dX12_laysWritings_186 : decode cX12_laysWritings 186 = .ok (.iload_n 3, 1) := by decide +kernel
theorem dX12_laysWritings_187 : decode cX12_laysWritings 187 = .ok (.iconst 1, 1) := by decide +kernel
theorem dX12_laysWritings_188 : decode cX12_laysWritings 188 = .ok (.isub, 1) := by decide +kernel
theorem dX12_laysWritings_189 : decode cX12_laysWritings 189 = .ok (.iaload, 1) := by decide +kernel
theorem dX12_laysWritings_190 : decode cX12_laysWritings 190 = .ok (.iastore, 1) := by decide +kernel
theorem dX12_laysWritings_191 : decode cX12_laysWritings 191 = .ok (.aload_n 0, 1) := by decide +kernel
theorem dX12_laysWritings_192 : decode cX12_laysWritings 192 = .ok (.getfield 136, 3) := by decide +kernel
theorem dX12_laysWritings_195 : decode cX12_laysWritings 195 = .ok (.iload_n 3, 1) := by decide +kernel
theorem dX12_laysWritings_196 : decode cX12_laysWritings 196 = .ok (.lload 4, 2) := by decide +kernel
theorem dX12_laysWritings_198 : decode cX12_laysWritings 198 = .ok (.lastore, 1) := by decide +kernel
theorem dX12_laysWritings_199 : decode cX12_laysWritings 199 = .ok (.goto (-168), 3) := by decide +kernel
theorem dX12_laysWritings_202 : decode cX12_laysWritings 202 = .ok (.return_, 1) := by decide +kernel
theorem dX12_bits_0 : decode cX12_bits 0 = .ok (.iconst 0, 1) := by decide +kernel
theorem dX12_bits_1 : decode cX12_bits 1 = .ok (.istore_n 1, 1) := by decide +kernel
theorem dX12_bits_2 : decode cX12_bits 2 = .ok (.iload_n 0, 1) := by decide +kernel
theorem dX12_bits_3 : decode cX12_bits 3 = .ok (.istore_n 2, 1) := by decide +kernel
theorem dX12_bits_4 : decode cX12_bits 4 = .ok (.iload_n 2, 1) := by decide +kernel
theorem dX12_bits_5 : decode cX12_bits 5 = .ok (.ifCond .eq 15, 3) := by decide +kernel
theorem dX12_bits_8 : decode cX12_bits 8 = .ok (.iinc 1 1, 3) := by decide +kernel
theorem dX12_bits_11 : decode cX12_bits 11 = .ok (.iload_n 2, 1) := by decide +kernel
theorem dX12_bits_12 : decode cX12_bits 12 = .ok (.iload_n 2, 1) := by decide +kernel
theorem dX12_bits_13 : decode cX12_bits 13 = .ok (.iconst 1, 1) := by decide +kernel
theorem dX12_bits_14 : decode cX12_bits 14 = .ok (.isub, 1) := by decide +kernel
theorem dX12_bits_15 : decode cX12_bits 15 = .ok (.iand, 1) := by decide +kernel
theorem dX12_bits_16 : decode cX12_bits 16 = .ok (.istore_n 2, 1) := by decide +kernel
theorem dX12_bits_17 : decode cX12_bits 17 = .ok (.goto (-13), 3) := by decide +kernel
theorem dX12_bits_20 : decode cX12_bits 20 = .ok (.iload_n 1, 1) := by decide +kernel
theorem dX12_bits_21 : decode cX12_bits 21 = .ok (.ireturn, 1) := by decide +kernel
theorem dX12_shortestFound_0 : decode cX12_shortestFound 0 = .ok (.iconst (-1), 1) := by decide +kernel
theorem dX12_shortestFound_1 : decode cX12_shortestFound 1 = .ok (.istore_n 1, 1) := by decide +kernel
theorem dX12_shortestFound_2 : decode cX12_shortestFound 2 = .ok (.iconst 0, 1) := by decide +kernel
theorem dX12_shortestFound_3 : decode cX12_shortestFound 3 = .ok (.istore_n 2, 1) := by decide +kernel
theorem dX12_shortestFound_4 : decode cX12_shortestFound 4 = .ok (.iload_n 2, 1) := by decide +kernel
theorem dX12_shortestFound_5 : decode cX12_shortestFound 5 = .ok (.aload_n 0, 1) := by decide +kernel
theorem dX12_shortestFound_6 : decode cX12_shortestFound 6 = .ok (.getfield 404, 3) := by decide +kernel
theorem dX12_shortestFound_9 : decode cX12_shortestFound 9 = .ok (.if_icmp .ge 37, 3) := by decide +kernel
theorem dX12_shortestFound_12 : decode cX12_shortestFound 12 = .ok (.iload_n 1, 1) := by decide +kernel
theorem dX12_shortestFound_13 : decode cX12_shortestFound 13 = .ok (.iconst (-1), 1) := by decide +kernel
theorem dX12_shortestFound_14 : decode cX12_shortestFound 14 = .ok (.if_icmp .eq 19, 3) := by decide +kernel
theorem dX12_shortestFound_17 : decode cX12_shortestFound 17 = .ok (.aload_n 0, 1) := by decide +kernel
theorem dX12_shortestFound_18 : decode cX12_shortestFound 18 = .ok (.getfield 130, 3) := by decide +kernel
theorem dX12_shortestFound_21 : decode cX12_shortestFound 21 = .ok (.iload_n 2, 1) := by decide +kernel
theorem dX12_shortestFound_22 : decode cX12_shortestFound 22 = .ok (.iaload, 1) := by decide +kernel
theorem dX12_shortestFound_23 : decode cX12_shortestFound 23 = .ok (.invokestatic 521, 3) := by decide +kernel
theorem dX12_shortestFound_26 : decode cX12_shortestFound 26 = .ok (.iload_n 1, 1) := by decide +kernel
theorem dX12_shortestFound_27 : decode cX12_shortestFound 27 = .ok (.invokestatic 521, 3) := by decide +kernel
theorem dX12_shortestFound_30 : decode cX12_shortestFound 30 = .ok (.if_icmp .ge 10, 3) := by decide +kernel
theorem dX12_shortestFound_33 : decode cX12_shortestFound 33 = .ok (.aload_n 0, 1) := by decide +kernel
theorem dX12_shortestFound_34 : decode cX12_shortestFound 34 = .ok (.getfield 130, 3) := by decide +kernel
theorem dX12_shortestFound_37 : decode cX12_shortestFound 37 = .ok (.iload_n 2, 1) := by decide +kernel
theorem dX12_shortestFound_38 : decode cX12_shortestFound 38 = .ok (.iaload, 1) := by decide +kernel
theorem dX12_shortestFound_39 : decode cX12_shortestFound 39 = .ok (.istore_n 1, 1) := by decide +kernel
theorem dX12_shortestFound_40 : decode cX12_shortestFound 40 = .ok (.iinc 2 1, 3) := by decide +kernel
theorem dX12_shortestFound_43 : decode cX12_shortestFound 43 = .ok (.goto (-39), 3) := by decide +kernel
theorem dX12_shortestFound_46 : decode cX12_shortestFound 46 = .ok (.iload_n 1, 1) := by decide +kernel
theorem dX12_shortestFound_47 : decode cX12_shortestFound 47 = .ok (.ireturn, 1) := by decide +kernel
theorem dX12_anew_0 : decode cX12_anew 0 = .ok (.iload_n 3, 1) := by decide +kernel
theorem dX12_anew_1 : decode cX12_anew 1 = .ok (.i2l, 1) := by decide +kernel
theorem dX12_anew_2 : decode cX12_anew 2 = .ok (.lconst 0, 1) := by decide +kernel
theorem dX12_anew_3 : decode cX12_anew 3 = .ok (.ldc2_w 514, 3) := by decide +kernel
theorem dX12_anew_6 : decode cX12_anew 6 = .ok (.invokestatic 300, 3) := by decide +kernel
theorem dX12_anew_9 : decode cX12_anew 9 = .ok (.ifCond .eq 23, 3) := by decide +kernel
theorem dX12_anew_12 : decode cX12_anew 12 = .ok (.aload_n 0, 1) := by decide +kernel
theorem dX12_anew_13 : decode cX12_anew 13 = .ok (.iload_n 1, 1) := by decide +kernel
theorem dX12_anew_14 : decode cX12_anew 14 = .ok (.invokevirtual 535, 3) := by decide +kernel
theorem dX12_anew_17 : decode cX12_anew 17 = .ok (.ifCond .eq 15, 3) := by decide +kernel
theorem dX12_anew_20 : decode cX12_anew 20 = .ok (.iload_n 3, 1) := by decide +kernel
theorem dX12_anew_21 : decode cX12_anew 21 = .ok (.ifCond .le 13, 3) := by decide +kernel
theorem dX12_anew_24 : decode cX12_anew 24 = .ok (.aload_n 0, 1) := by decide +kernel
theorem dX12_anew_25 : decode cX12_anew 25 = .ok (.iload_n 2, 1) := by decide +kernel
theorem dX12_anew_26 : decode cX12_anew 26 = .ok (.invokevirtual 535, 3) := by decide +kernel
theorem dX12_anew_29 : decode cX12_anew 29 = .ok (.ifCond .ne 5, 3) := by decide +kernel
theorem dX12_anew_32 : decode cX12_anew 32 = .ok (.iconst (-1), 1) := by decide +kernel
theorem dX12_anew_33 : decode cX12_anew 33 = .ok (.ireturn, 1) := by decide +kernel
theorem dX12_anew_34 : decode cX12_anew 34 = .ok (.aload_n 0, 1) := by decide +kernel
theorem dX12_anew_35 : decode cX12_anew 35 = .ok (.iload_n 1, 1) := by decide +kernel
theorem dX12_anew_36 : decode cX12_anew 36 = .ok (.invokevirtual 538, 3) := by decide +kernel
theorem dX12_anew_39 : decode cX12_anew 39 = .ok (.lstore 4, 2) := by decide +kernel
theorem dX12_anew_41 : decode cX12_anew 41 = .ok (.aload_n 0, 1) := by decide +kernel
theorem dX12_anew_42 : decode cX12_anew 42 = .ok (.iload_n 3, 1) := by decide +kernel
theorem dX12_anew_43 : decode cX12_anew 43 = .ok (.ifCond .ne 12, 3) := by decide +kernel
theorem dX12_anew_46 : decode cX12_anew 46 = .ok (.ldc2_w 514, 3) := by decide +kernel
theorem dX12_anew_49 : decode cX12_anew 49 = .ok (.lload 4, 2) := by decide +kernel
theorem dX12_anew_51 : decode cX12_anew 51 = .ok (.lmul, 1) := by decide +kernel
theorem dX12_anew_52 : decode cX12_anew 52 = .ok (.goto 27, 3) := by decide +kernel
theorem dX12_anew_55 : decode cX12_anew 55 = .ok (.iload_n 3, 1) := by decide +kernel
theorem dX12_anew_56 : decode cX12_anew 56 = .ok (.iconst 1, 1) := by decide +kernel
theorem dX12_anew_57 : decode cX12_anew 57 = .ok (.if_icmp .ne 14, 3) := by decide +kernel
theorem dX12_anew_60 : decode cX12_anew 60 = .ok (.lload 4, 2) := by decide +kernel
theorem dX12_anew_62 : decode cX12_anew 62 = .ok (.aload_n 0, 1) := by decide +kernel
theorem dX12_anew_63 : decode cX12_anew 63 = .ok (.iload_n 2, 1) := by decide +kernel
theorem dX12_anew_64 : decode cX12_anew 64 = .ok (.invokevirtual 538, 3) := by decide +kernel
theorem dX12_anew_67 : decode cX12_anew 67 = .ok (.ladd, 1) := by decide +kernel
theorem dX12_anew_68 : decode cX12_anew 68 = .ok (.goto 11, 3) := by decide +kernel
theorem dX12_anew_71 : decode cX12_anew 71 = .ok (.lload 4, 2) := by decide +kernel
theorem dX12_anew_73 : decode cX12_anew 73 = .ok (.aload_n 0, 1) := by decide +kernel
theorem dX12_anew_74 : decode cX12_anew 74 = .ok (.iload_n 2, 1) := by decide +kernel
theorem dX12_anew_75 : decode cX12_anew 75 = .ok (.invokevirtual 538, 3) := by decide +kernel
theorem dX12_anew_78 : decode cX12_anew 78 = .ok (.lsub, 1) := by decide +kernel
theorem dX12_anew_79 : decode cX12_anew 79 = .ok (.invokevirtual 417, 3) := by decide +kernel
theorem dX12_anew_82 : decode cX12_anew 82 = .ok (.aload_n 0, 1) := by decide +kernel
theorem dX12_anew_83 : decode cX12_anew 83 = .ok (.invokevirtual 524, 3) := by decide +kernel
theorem dX12_anew_86 : decode cX12_anew 86 = .ok (.ireturn, 1) := by decide +kernel
theorem dX12_look_0 : decode cX12_look 0 = .ok (.aload_n 0, 1) := by decide +kernel
theorem dX12_look_1 : decode cX12_look 1 = .ok (.getfield 263, 3) := by decide +kernel
theorem dX12_look_4 : decode cX12_look 4 = .ok (.aload_n 0, 1) := by decide +kernel
theorem dX12_look_5 : decode cX12_look 5 = .ok (.getfield 266, 3) := by decide +kernel
theorem dX12_look_8 : decode cX12_look 8 = .ok (.if_icmp .ge 44, 3) := by decide +kernel
theorem dX12_look_11 : decode cX12_look 11 = .ok (.aload_n 0, 1) := by decide +kernel
theorem dX12_look_12 : decode cX12_look 12 = .ok (.getfield 7, 3) := by decide +kernel
theorem dX12_look_15 : decode cX12_look 15 = .ok (.aload_n 0, 1) := by decide +kernel
theorem dX12_look_16 : decode cX12_look 16 = .ok (.getfield 263, 3) := by decide +kernel
theorem dX12_look_19 : decode cX12_look 19 = .ok (.iaload, 1) := by decide +kernel
theorem dX12_look_20 : decode cX12_look 20 = .ok (.bipush 10, 2) := by decide +kernel
theorem dX12_look_22 : decode cX12_look 22 = .ok (.if_icmp .eq 17, 3) := by decide +kernel
theorem dX12_look_25 : decode cX12_look 25 = .ok (.aload_n 0, 1) := by decide +kernel
theorem dX12_look_26 : decode cX12_look 26 = .ok (.getfield 7, 3) := by decide +kernel
theorem dX12_look_29 : decode cX12_look 29 = .ok (.aload_n 0, 1) := by decide +kernel
theorem dX12_look_30 : decode cX12_look 30 = .ok (.getfield 263, 3) := by decide +kernel
theorem dX12_look_33 : decode cX12_look 33 = .ok (.iaload, 1) := by decide +kernel
theorem dX12_look_34 : decode cX12_look 34 = .ok (.bipush 32, 2) := by decide +kernel
theorem dX12_look_36 : decode cX12_look 36 = .ok (.if_icmp .ne 16, 3) := by decide +kernel
theorem dX12_look_39 : decode cX12_look 39 = .ok (.aload_n 0, 1) := by decide +kernel
theorem dX12_look_40 : decode cX12_look 40 = .ok (.dup, 1) := by decide +kernel
theorem dX12_look_41 : decode cX12_look 41 = .ok (.getfield 263, 3) := by decide +kernel
theorem dX12_look_44 : decode cX12_look 44 = .ok (.iconst 1, 1) := by decide +kernel
theorem dX12_look_45 : decode cX12_look 45 = .ok (.iadd, 1) := by decide +kernel
theorem dX12_look_46 : decode cX12_look 46 = .ok (.putfield 263, 3) := by decide +kernel
theorem dX12_look_49 : decode cX12_look 49 = .ok (.goto (-49), 3) := by decide +kernel
theorem dX12_look_52 : decode cX12_look 52 = .ok (.aload_n 0, 1) := by decide +kernel
theorem dX12_look_53 : decode cX12_look 53 = .ok (.getfield 263, 3) := by decide +kernel
theorem dX12_look_56 : decode cX12_look 56 = .ok (.aload_n 0, 1) := by decide +kernel
theorem dX12_look_57 : decode cX12_look 57 = .ok (.getfield 266, 3) := by decide +kernel
theorem dX12_look_60 : decode cX12_look 60 = .ok (.if_icmp .ge 15, 3) := by decide +kernel
theorem dX12_look_63 : decode cX12_look 63 = .ok (.aload_n 0, 1) := by decide +kernel
theorem dX12_look_64 : decode cX12_look 64 = .ok (.getfield 7, 3) := by decide +kernel
theorem dX12_look_67 : decode cX12_look 67 = .ok (.aload_n 0, 1) := by decide +kernel
theorem dX12_look_68 : decode cX12_look 68 = .ok (.getfield 263, 3) := by decide +kernel
theorem dX12_look_71 : decode cX12_look 71 = .ok (.iaload, 1) := by decide +kernel
theorem dX12_look_72 : decode cX12_look 72 = .ok (.goto 4, 3) := by decide +kernel
theorem dX12_look_75 : decode cX12_look 75 = .ok (.iconst (-1), 1) := by decide +kernel
theorem dX12_look_76 : decode cX12_look 76 = .ok (.ireturn, 1) := by decide +kernel
theorem dX12_isLetter_0 : decode cX12_isLetter 0 = .ok (.iload_n 0, 1) := by decide +kernel
theorem dX12_isLetter_1 : decode cX12_isLetter 1 = .ok (.bipush 97, 2) := by decide +kernel
theorem dX12_isLetter_3 : decode cX12_isLetter 3 = .ok (.if_icmp .lt 13, 3) := by decide +kernel
theorem dX12_isLetter_6 : decode cX12_isLetter 6 = .ok (.iload_n 0, 1) := by decide +kernel
theorem dX12_isLetter_7 : decode cX12_isLetter 7 = .ok (.bipush 122, 2) := by decide +kernel
theorem dX12_isLetter_9 : decode cX12_isLetter 9 = .ok (.if_icmp .gt 7, 3) := by decide +kernel
theorem dX12_isLetter_12 : decode cX12_isLetter 12 = .ok (.iconst 1, 1) := by decide +kernel
theorem dX12_isLetter_13 : decode cX12_isLetter 13 = .ok (.goto 4, 3) := by decide +kernel
theorem dX12_isLetter_16 : decode cX12_isLetter 16 = .ok (.iconst 0, 1) := by decide +kernel
theorem dX12_isLetter_17 : decode cX12_isLetter 17 = .ok (.ireturn, 1) := by decide +kernel
theorem dX12_isHere_0 : decode cX12_isHere 0 = .ok (.aload_n 0, 1) := by decide +kernel
theorem dX12_isHere_1 : decode cX12_isHere 1 = .ok (.getfield 257, 3) := by decide +kernel
theorem dX12_isHere_4 : decode cX12_isHere 4 = .ok (.ifCond .ne 24, 3) := by decide +kernel
theorem dX12_isHere_7 : decode cX12_isHere 7 = .ok (.aload_n 0, 1) := by decide +kernel
theorem dX12_isHere_8 : decode cX12_isHere 8 = .ok (.invokevirtual 269, 3) := by decide +kernel
theorem dX12_isHere_11 : decode cX12_isHere 11 = .ok (.invokestatic 273, 3) := by decide +kernel
theorem dX12_isHere_14 : decode cX12_isHere 14 = .ok (.ifCond .eq 14, 3) := by decide +kernel
theorem dX12_isHere_17 : decode cX12_isHere 17 = .ok (.aload_n 0, 1) := by decide +kernel
theorem dX12_isHere_18 : decode cX12_isHere 18 = .ok (.getfield 263, 3) := by decide +kernel
theorem dX12_isHere_21 : decode cX12_isHere 21 = .ok (.aload_n 0, 1) := by decide +kernel
theorem dX12_isHere_22 : decode cX12_isHere 22 = .ok (.getfield 277, 3) := by decide +kernel
theorem dX12_isHere_25 : decode cX12_isHere 25 = .ok (.if_icmp .ne 5, 3) := by decide +kernel
theorem dX12_isHere_28 : decode cX12_isHere 28 = .ok (.iconst 0, 1) := by decide +kernel
theorem dX12_isHere_29 : decode cX12_isHere 29 = .ok (.ireturn, 1) := by decide +kernel
theorem dX12_isHere_30 : decode cX12_isHere 30 = .ok (.aload_n 0, 1) := by decide +kernel
theorem dX12_isHere_31 : decode cX12_isHere 31 = .ok (.getfield 263, 3) := by decide +kernel
theorem dX12_isHere_34 : decode cX12_isHere 34 = .ok (.istore_n 2, 1) := by decide +kernel
theorem dX12_isHere_35 : decode cX12_isHere 35 = .ok (.iload_n 2, 1) := by decide +kernel
theorem dX12_isHere_36 : decode cX12_isHere 36 = .ok (.aload_n 0, 1) := by decide +kernel
theorem dX12_isHere_37 : decode cX12_isHere 37 = .ok (.getfield 266, 3) := by decide +kernel
theorem dX12_isHere_40 : decode cX12_isHere 40 = .ok (.if_icmp .ge 21, 3) := by decide +kernel
theorem dX12_isHere_43 : decode cX12_isHere 43 = .ok (.aload_n 0, 1) := by decide +kernel
theorem dX12_isHere_44 : decode cX12_isHere 44 = .ok (.getfield 7, 3) := by decide +kernel
theorem dX12_isHere_47 : decode cX12_isHere 47 = .ok (.iload_n 2, 1) := by decide +kernel
theorem dX12_isHere_48 : decode cX12_isHere 48 = .ok (.iaload, 1) := by decide +kernel
theorem dX12_isHere_49 : decode cX12_isHere 49 = .ok (.invokestatic 273, 3) := by decide +kernel
theorem dX12_isHere_52 : decode cX12_isHere 52 = .ok (.ifCond .eq 9, 3) := by decide +kernel
theorem dX12_isHere_55 : decode cX12_isHere 55 = .ok (.iinc 2 1, 3) := by decide +kernel
theorem dX12_isHere_58 : decode cX12_isHere 58 = .ok (.goto (-23), 3) := by decide +kernel
theorem dX12_isHere_61 : decode cX12_isHere 61 = .ok (.iload_n 2, 1) := by decide +kernel
theorem dX12_isHere_62 : decode cX12_isHere 62 = .ok (.aload_n 0, 1) := by decide +kernel
theorem dX12_isHere_63 : decode cX12_isHere 63 = .ok (.getfield 263, 3) := by decide +kernel
theorem dX12_isHere_66 : decode cX12_isHere 66 = .ok (.isub, 1) := by decide +kernel
theorem dX12_isHere_67 : decode cX12_isHere 67 = .ok (.aload_n 1, 1) := by decide +kernel
theorem dX12_isHere_68 : decode cX12_isHere 68 = .ok (.arraylength, 1) := by decide +kernel
theorem dX12_isHere_69 : decode cX12_isHere 69 = .ok (.if_icmp .eq 5, 3) := by decide +kernel
theorem dX12_isHere_72 : decode cX12_isHere 72 = .ok (.iconst 0, 1) := by decide +kernel
theorem dX12_isHere_73 : decode cX12_isHere 73 = .ok (.ireturn, 1) := by decide +kernel
theorem dX12_isHere_74 : decode cX12_isHere 74 = .ok (.iconst 0, 1) := by decide +kernel
theorem dX12_isHere_75 : decode cX12_isHere 75 = .ok (.istore_n 3, 1) := by decide +kernel
theorem dX12_isHere_76 : decode cX12_isHere 76 = .ok (.iload_n 3, 1) := by decide +kernel
theorem dX12_isHere_77 : decode cX12_isHere 77 = .ok (.aload_n 1, 1) := by decide +kernel
theorem dX12_isHere_78 : decode cX12_isHere 78 = .ok (.arraylength, 1) := by decide +kernel
theorem dX12_isHere_79 : decode cX12_isHere 79 = .ok (.if_icmp .ge 28, 3) := by decide +kernel
theorem dX12_isHere_82 : decode cX12_isHere 82 = .ok (.aload_n 0, 1) := by decide +kernel
theorem dX12_isHere_83 : decode cX12_isHere 83 = .ok (.getfield 7, 3) := by decide +kernel
theorem dX12_isHere_86 : decode cX12_isHere 86 = .ok (.aload_n 0, 1) := by decide +kernel
theorem dX12_isHere_87 : decode cX12_isHere 87 = .ok (.getfield 263, 3) := by decide +kernel
theorem dX12_isHere_90 : decode cX12_isHere 90 = .ok (.iload_n 3, 1) := by decide +kernel
theorem dX12_isHere_91 : decode cX12_isHere 91 = .ok (.iadd, 1) := by decide +kernel
theorem dX12_isHere_92 : decode cX12_isHere 92 = .ok (.iaload, 1) := by decide +kernel
theorem dX12_isHere_93 : decode cX12_isHere 93 = .ok (.aload_n 1, 1) := by decide +kernel
theorem dX12_isHere_94 : decode cX12_isHere 94 = .ok (.iload_n 3, 1) := by decide +kernel
theorem dX12_isHere_95 : decode cX12_isHere 95 = .ok (.caload, 1) := by decide +kernel
theorem dX12_isHere_96 : decode cX12_isHere 96 = .ok (.if_icmp .eq 5, 3) := by decide +kernel
theorem dX12_isHere_99 : decode cX12_isHere 99 = .ok (.iconst 0, 1) := by decide +kernel
theorem dX12_isHere_100 : decode cX12_isHere 100 = .ok (.ireturn, 1) := by decide +kernel
theorem dX12_isHere_101 : decode cX12_isHere 101 = .ok (.iinc 3 1, 3) := by decide +kernel
theorem dX12_isHere_104 : decode cX12_isHere 104 = .ok (.goto (-28), 3) := by decide +kernel
theorem dX12_isHere_107 : decode cX12_isHere 107 = .ok (.iconst 1, 1) := by decide +kernel
theorem dX12_isHere_108 : decode cX12_isHere 108 = .ok (.ireturn, 1) := by decide +kernel
theorem dX12_takes_0 : decode cX12_takes 0 = .ok (.aload_n 0, 1) := by decide +kernel
theorem dX12_takes_1 : decode cX12_takes 1 = .ok (.aload_n 1, 1) := by decide +kernel
theorem dX12_takes_2 : decode cX12_takes 2 = .ok (.invokevirtual 280, 3) := by decide +kernel
theorem dX12_takes_5 : decode cX12_takes 5 = .ok (.ifCond .ne 5, 3) := by decide +kernel
theorem dX12_takes_8 : decode cX12_takes 8 = .ok (.iconst 0, 1) := by decide +kernel
theorem dX12_takes_9 : decode cX12_takes 9 = .ok (.ireturn, 1) := by decide +kernel
theorem dX12_takes_10 : decode cX12_takes 10 = .ok (.aload_n 0, 1) := by decide +kernel
theorem dX12_takes_11 : decode cX12_takes 11 = .ok (.dup, 1) := by decide +kernel
theorem dX12_takes_12 : decode cX12_takes 12 = .ok (.getfield 263, 3) := by decide +kernel
theorem dX12_takes_15 : decode cX12_takes 15 = .ok (.aload_n 1, 1) := by decide +kernel
theorem dX12_takes_16 : decode cX12_takes 16 = .ok (.arraylength, 1) := by decide +kernel
theorem dX12_takes_17 : decode cX12_takes 17 = .ok (.iadd, 1) := by decide +kernel
theorem dX12_takes_18 : decode cX12_takes 18 = .ok (.putfield 263, 3) := by decide +kernel
theorem dX12_takes_21 : decode cX12_takes 21 = .ok (.aload_n 0, 1) := by decide +kernel
theorem dX12_takes_22 : decode cX12_takes 22 = .ok (.aload_n 0, 1) := by decide +kernel
theorem dX12_takes_23 : decode cX12_takes 23 = .ok (.getfield 263, 3) := by decide +kernel
theorem dX12_takes_26 : decode cX12_takes 26 = .ok (.putfield 277, 3) := by decide +kernel
theorem dX12_takes_29 : decode cX12_takes 29 = .ok (.iconst 1, 1) := by decide +kernel
theorem dX12_takes_30 : decode cX12_takes 30 = .ok (.ireturn, 1) := by decide +kernel
theorem dX12_fail_0 : decode cX12_fail 0 = .ok (.aload_n 0, 1) := by decide +kernel
theorem dX12_fail_1 : decode cX12_fail 1 = .ok (.getfield 257, 3) := by decide +kernel
theorem dX12_fail_4 : decode cX12_fail 4 = .ok (.ifCond .eq 4, 3) := by decide +kernel
theorem dX12_fail_7 : decode cX12_fail 7 = .ok (.return_, 1) := by decide +kernel
theorem dX12_fail_8 : decode cX12_fail 8 = .ok (.aload_n 0, 1) := by decide +kernel
theorem dX12_fail_9 : decode cX12_fail 9 = .ok (.iload_n 1, 1) := by decide +kernel
theorem dX12_fail_10 : decode cX12_fail 10 = .ok (.putfield 257, 3) := by decide +kernel
theorem dX12_fail_13 : decode cX12_fail 13 = .ok (.aload_n 0, 1) := by decide +kernel
theorem dX12_fail_14 : decode cX12_fail 14 = .ok (.iload_n 2, 1) := by decide +kernel
theorem dX12_fail_15 : decode cX12_fail 15 = .ok (.putfield 260, 3) := by decide +kernel
theorem dX12_fail_18 : decode cX12_fail 18 = .ok (.return_, 1) := by decide +kernel
theorem dX12_asks_0 : decode cX12_asks 0 = .ok (.aload_n 0, 1) := by decide +kernel
theorem dX12_asks_1 : decode cX12_asks 1 = .ok (.getfield 257, 3) := by decide +kernel
theorem dX12_asks_4 : decode cX12_asks 4 = .ok (.ifCond .ne 20, 3) := by decide +kernel
theorem dX12_asks_7 : decode cX12_asks 7 = .ok (.aload_n 0, 1) := by decide +kernel
theorem dX12_asks_8 : decode cX12_asks 8 = .ok (.aload_n 1, 1) := by decide +kernel
theorem dX12_asks_9 : decode cX12_asks 9 = .ok (.invokevirtual 284, 3) := by decide +kernel
theorem dX12_asks_12 : decode cX12_asks 12 = .ok (.ifCond .ne 12, 3) := by decide +kernel
theorem dX12_asks_15 : decode cX12_asks 15 = .ok (.aload_n 0, 1) := by decide +kernel
theorem dX12_asks_16 : decode cX12_asks 16 = .ok (.iconst 1, 1) := by decide +kernel
theorem dX12_asks_17 : decode cX12_asks 17 = .ok (.aload_n 0, 1) := by decide +kernel
theorem dX12_asks_18 : decode cX12_asks 18 = .ok (.getfield 263, 3) := by decide +kernel
theorem dX12_asks_21 : decode cX12_asks 21 = .ok (.invokevirtual 287, 3) := by decide +kernel
theorem dX12_asks_24 : decode cX12_asks 24 = .ok (.return_, 1) := by decide +kernel
theorem dX12_qKind_0 : decode cX12_qKind 0 = .ok (.aload_n 0, 1) := by decide +kernel
theorem dX12_qKind_1 : decode cX12_qKind 1 = .ok (.aload_n 0, 1) := by decide +kernel
theorem dX12_qKind_2 : decode cX12_qKind 2 = .ok (.getfield 170, 3) := by decide +kernel
theorem dX12_qKind_5 : decode cX12_qKind 5 = .ok (.invokevirtual 284, 3) := by decide +kernel
theorem dX12_qKind_8 : decode cX12_qKind 8 = .ok (.ifCond .eq 7, 3) := by decide +kernel
theorem dX12_qKind_11 : decode cX12_qKind 11 = .ok (.iconst 0, 1) := by decide +kernel
theorem dX12_qKind_12 : decode cX12_qKind 12 = .ok (.goto 64, 3) := by decide +kernel
theorem dX12_qKind_15 : decode cX12_qKind 15 = .ok (.aload_n 0, 1) := by decide +kernel
theorem dX12_qKind_16 : decode cX12_qKind 16 = .ok (.aload_n 0, 1) := by decide +kernel
theorem dX12_qKind_17 : decode cX12_qKind 17 = .ok (.getfield 173, 3) := by decide +kernel
theorem dX12_qKind_20 : decode cX12_qKind 20 = .ok (.invokevirtual 284, 3) := by decide +kernel
theorem dX12_qKind_23 : decode cX12_qKind 23 = .ok (.ifCond .eq 7, 3) := by decide +kernel
theorem dX12_qKind_26 : decode cX12_qKind 26 = .ok (.iconst 1, 1) := by decide +kernel
theorem dX12_qKind_27 : decode cX12_qKind 27 = .ok (.goto 49, 3) := by decide +kernel
theorem dX12_qKind_30 : decode cX12_qKind 30 = .ok (.aload_n 0, 1) := by decide +kernel
theorem dX12_qKind_31 : decode cX12_qKind 31 = .ok (.aload_n 0, 1) := by decide +kernel
theorem dX12_qKind_32 : decode cX12_qKind 32 = .ok (.getfield 176, 3) := by decide +kernel
theorem dX12_qKind_35 : decode cX12_qKind 35 = .ok (.invokevirtual 284, 3) := by decide +kernel
theorem dX12_qKind_38 : decode cX12_qKind 38 = .ok (.ifCond .eq 7, 3) := by decide +kernel
theorem dX12_qKind_41 : decode cX12_qKind 41 = .ok (.iconst 2, 1) := by decide +kernel
theorem dX12_qKind_42 : decode cX12_qKind 42 = .ok (.goto 34, 3) := by decide +kernel
theorem dX12_qKind_45 : decode cX12_qKind 45 = .ok (.aload_n 0, 1) := by decide +kernel
theorem dX12_qKind_46 : decode cX12_qKind 46 = .ok (.aload_n 0, 1) := by decide +kernel
theorem dX12_qKind_47 : decode cX12_qKind 47 = .ok (.getfield 179, 3) := by decide +kernel
theorem dX12_qKind_50 : decode cX12_qKind 50 = .ok (.invokevirtual 284, 3) := by decide +kernel
theorem dX12_qKind_53 : decode cX12_qKind 53 = .ok (.ifCond .eq 7, 3) := by decide +kernel
theorem dX12_qKind_56 : decode cX12_qKind 56 = .ok (.iconst 3, 1) := by decide +kernel
theorem dX12_qKind_57 : decode cX12_qKind 57 = .ok (.goto 19, 3) := by decide +kernel
theorem dX12_qKind_60 : decode cX12_qKind 60 = .ok (.aload_n 0, 1) := by decide +kernel
theorem dX12_qKind_61 : decode cX12_qKind 61 = .ok (.aload_n 0, 1) := by decide +kernel
theorem dX12_qKind_62 : decode cX12_qKind 62 = .ok (.getfield 182, 3) := by decide +kernel
theorem dX12_qKind_65 : decode cX12_qKind 65 = .ok (.invokevirtual 284, 3) := by decide +kernel
theorem dX12_qKind_68 : decode cX12_qKind 68 = .ok (.ifCond .eq 7, 3) := by decide +kernel
theorem dX12_qKind_71 : decode cX12_qKind 71 = .ok (.iconst 4, 1) := by decide +kernel
theorem dX12_qKind_72 : decode cX12_qKind 72 = .ok (.goto 4, 3) := by decide +kernel
theorem dX12_qKind_75 : decode cX12_qKind 75 = .ok (.iconst 5, 1) := by decide +kernel
theorem dX12_qKind_76 : decode cX12_qKind 76 = .ok (.istore_n 1, 1) := by decide +kernel
theorem dX12_qKind_77 : decode cX12_qKind 77 = .ok (.iload_n 1, 1) := by decide +kernel
theorem dX12_qKind_78 : decode cX12_qKind 78 = .ok (.iconst 5, 1) := by decide +kernel
theorem dX12_qKind_79 : decode cX12_qKind 79 = .ok (.if_icmp .ne 11, 3) := by decide +kernel
theorem dX12_qKind_82 : decode cX12_qKind 82 = .ok (.aload_n 0, 1) := by decide +kernel
theorem dX12_qKind_83 : decode cX12_qKind 83 = .ok (.aload_n 0, 1) := by decide +kernel
theorem dX12_qKind_84 : decode cX12_qKind 84 = .ok (.getfield 185, 3) := by decide +kernel
theorem dX12_qKind_87 : decode cX12_qKind 87 = .ok (.invokevirtual 318, 3) := by decide +kernel
theorem dX12_qKind_90 : decode cX12_qKind 90 = .ok (.iload_n 1, 1) := by decide +kernel
theorem dX12_qKind_91 : decode cX12_qKind 91 = .ok (.ireturn, 1) := by decide +kernel
theorem dX12_qOpens_0 : decode cX12_qOpens 0 = .ok (.aload_n 0, 1) := by decide +kernel
theorem dX12_qOpens_1 : decode cX12_qOpens 1 = .ok (.getfield 257, 3) := by decide +kernel
theorem dX12_qOpens_4 : decode cX12_qOpens 4 = .ok (.ifCond .eq 4, 3) := by decide +kernel
theorem dX12_qOpens_7 : decode cX12_qOpens 7 = .ok (.return_, 1) := by decide +kernel
theorem dX12_qOpens_8 : decode cX12_qOpens 8 = .ok (.aload_n 0, 1) := by decide +kernel
theorem dX12_qOpens_9 : decode cX12_qOpens 9 = .ok (.getfield 340, 3) := by decide +kernel
theorem dX12_qOpens_12 : decode cX12_qOpens 12 = .ok (.bipush 6, 2) := by decide +kernel
theorem dX12_qOpens_14 : decode cX12_qOpens 14 = .ok (.if_icmp .ne 10, 3) := by decide +kernel
theorem dX12_qOpens_17 : decode cX12_qOpens 17 = .ok (.aload_n 0, 1) := by decide +kernel
theorem dX12_qOpens_18 : decode cX12_qOpens 18 = .ok (.iconst 4, 1) := by decide +kernel
theorem dX12_qOpens_19 : decode cX12_qOpens 19 = .ok (.iload_n 2, 1) := by decide +kernel
theorem dX12_qOpens_20 : decode cX12_qOpens 20 = .ok (.invokevirtual 287, 3) := by decide +kernel
theorem dX12_qOpens_23 : decode cX12_qOpens 23 = .ok (.return_, 1) := by decide +kernel
theorem dX12_qOpens_24 : decode cX12_qOpens 24 = .ok (.aload_n 0, 1) := by decide +kernel
theorem dX12_qOpens_25 : decode cX12_qOpens 25 = .ok (.dup, 1) := by decide +kernel
theorem dX12_qOpens_26 : decode cX12_qOpens 26 = .ok (.getfield 340, 3) := by decide +kernel
theorem dX12_qOpens_29 : decode cX12_qOpens 29 = .ok (.iconst 1, 1) := by decide +kernel
theorem dX12_qOpens_30 : decode cX12_qOpens 30 = .ok (.iadd, 1) := by decide +kernel
theorem dX12_qOpens_31 : decode cX12_qOpens 31 = .ok (.putfield 340, 3) := by decide +kernel
theorem dX12_qOpens_34 : decode cX12_qOpens 34 = .ok (.aload_n 0, 1) := by decide +kernel
theorem dX12_qOpens_35 : decode cX12_qOpens 35 = .ok (.getfield 245, 3) := by decide +kernel
theorem dX12_qOpens_38 : decode cX12_qOpens 38 = .ok (.aload_n 0, 1) := by decide +kernel
theorem dX12_qOpens_39 : decode cX12_qOpens 39 = .ok (.getfield 337, 3) := by decide +kernel
theorem dX12_qOpens_42 : decode cX12_qOpens 42 = .ok (.iload_n 1, 1) := by decide +kernel
theorem dX12_qOpens_43 : decode cX12_qOpens 43 = .ok (.iastore, 1) := by decide +kernel
theorem dX12_qOpens_44 : decode cX12_qOpens 44 = .ok (.aload_n 0, 1) := by decide +kernel
theorem dX12_qOpens_45 : decode cX12_qOpens 45 = .ok (.dup, 1) := by decide +kernel
theorem dX12_qOpens_46 : decode cX12_qOpens 46 = .ok (.getfield 337, 3) := by decide +kernel
theorem dX12_qOpens_49 : decode cX12_qOpens 49 = .ok (.iconst 1, 1) := by decide +kernel
theorem dX12_qOpens_50 : decode cX12_qOpens 50 = .ok (.iadd, 1) := by decide +kernel
theorem dX12_qOpens_51 : decode cX12_qOpens 51 = .ok (.putfield 337, 3) := by decide +kernel
theorem dX12_qOpens_54 : decode cX12_qOpens 54 = .ok (.return_, 1) := by decide +kernel
theorem dX12_qCode_0 : decode cX12_qCode 0 = .ok (.aload_n 0, 1) := by decide +kernel
theorem dX12_qCode_1 : decode cX12_qCode 1 = .ok (.getfield 242, 3) := by decide +kernel
theorem dX12_qCode_4 : decode cX12_qCode 4 = .ok (.aload_n 0, 1) := by decide +kernel
theorem dX12_qCode_5 : decode cX12_qCode 5 = .ok (.getfield 334, 3) := by decide +kernel
theorem dX12_qCode_8 : decode cX12_qCode 8 = .ok (.iload_n 1, 1) := by decide +kernel
theorem dX12_qCode_9 : decode cX12_qCode 9 = .ok (.iastore, 1) := by decide +kernel
theorem dX12_qCode_10 : decode cX12_qCode 10 = .ok (.aload_n 0, 1) := by decide +kernel
theorem dX12_qCode_11 : decode cX12_qCode 11 = .ok (.dup, 1) := by decide +kernel
theorem dX12_qCode_12 : decode cX12_qCode 12 = .ok (.getfield 334, 3) := by decide +kernel
theorem dX12_qCode_15 : decode cX12_qCode 15 = .ok (.iconst 1, 1) := by decide +kernel
theorem dX12_qCode_16 : decode cX12_qCode 16 = .ok (.iadd, 1) := by decide +kernel
theorem dX12_qCode_17 : decode cX12_qCode 17 = .ok (.putfield 334, 3) := by decide +kernel
theorem dX12_qCode_20 : decode cX12_qCode 20 = .ok (.return_, 1) := by decide +kernel
theorem dX12_qWordHere_0 : decode cX12_qWordHere 0 = .ok (.aload_n 0, 1) := by decide +kernel
theorem dX12_qWordHere_1 : decode cX12_qWordHere 1 = .ok (.aload_n 0, 1) := by decide +kernel
theorem dX12_qWordHere_2 : decode cX12_qWordHere 2 = .ok (.getfield 206, 3) := by decide +kernel
theorem dX12_qWordHere_5 : decode cX12_qWordHere 5 = .ok (.invokevirtual 280, 3) := by decide +kernel
theorem dX12_qWordHere_8 : decode cX12_qWordHere 8 = .ok (.ifCond .eq 5, 3) := by decide +kernel
theorem dX12_qWordHere_11 : decode cX12_qWordHere 11 = .ok (.iconst 0, 1) := by decide +kernel
theorem dX12_qWordHere_12 : decode cX12_qWordHere 12 = .ok (.ireturn, 1) := by decide +kernel
theorem dX12_qWordHere_13 : decode cX12_qWordHere 13 = .ok (.aload_n 0, 1) := by decide +kernel
theorem dX12_qWordHere_14 : decode cX12_qWordHere 14 = .ok (.getfield 315, 3) := by decide +kernel
theorem dX12_qWordHere_17 : decode cX12_qWordHere 17 = .ok (.iconst 2, 1) := by decide +kernel
theorem dX12_qWordHere_18 : decode cX12_qWordHere 18 = .ok (.if_icmp .ge 16, 3) := by decide +kernel
theorem dX12_qWordHere_21 : decode cX12_qWordHere 21 = .ok (.aload_n 0, 1) := by decide +kernel
theorem dX12_qWordHere_22 : decode cX12_qWordHere 22 = .ok (.aload_n 0, 1) := by decide +kernel
theorem dX12_qWordHere_23 : decode cX12_qWordHere 23 = .ok (.getfield 209, 3) := by decide +kernel
theorem dX12_qWordHere_26 : decode cX12_qWordHere 26 = .ok (.invokevirtual 280, 3) := by decide +kernel
theorem dX12_qWordHere_29 : decode cX12_qWordHere 29 = .ok (.ifCond .eq 5, 3) := by decide +kernel
theorem dX12_qWordHere_32 : decode cX12_qWordHere 32 = .ok (.iconst 1, 1) := by decide +kernel
theorem dX12_qWordHere_33 : decode cX12_qWordHere 33 = .ok (.ireturn, 1) := by decide +kernel
theorem dX12_qWordHere_34 : decode cX12_qWordHere 34 = .ok (.aload_n 0, 1) := by decide +kernel
theorem dX12_qWordHere_35 : decode cX12_qWordHere 35 = .ok (.aload_n 0, 1) := by decide +kernel
theorem dX12_qWordHere_36 : decode cX12_qWordHere 36 = .ok (.getfield 212, 3) := by decide +kernel
theorem dX12_qWordHere_39 : decode cX12_qWordHere 39 = .ok (.invokevirtual 280, 3) := by decide +kernel
theorem dX12_qWordHere_42 : decode cX12_qWordHere 42 = .ok (.ifCond .eq 5, 3) := by decide +kernel
theorem dX12_qWordHere_45 : decode cX12_qWordHere 45 = .ok (.iconst 2, 1) := by decide +kernel
theorem dX12_qWordHere_46 : decode cX12_qWordHere 46 = .ok (.ireturn, 1) := by decide +kernel
theorem dX12_qWordHere_47 : decode cX12_qWordHere 47 = .ok (.aload_n 0, 1) := by decide +kernel
theorem dX12_qWordHere_48 : decode cX12_qWordHere 48 = .ok (.aload_n 0, 1) := by decide +kernel
theorem dX12_qWordHere_49 : decode cX12_qWordHere 49 = .ok (.getfield 215, 3) := by decide +kernel
theorem dX12_qWordHere_52 : decode cX12_qWordHere 52 = .ok (.invokevirtual 280, 3) := by decide +kernel
theorem dX12_qWordHere_55 : decode cX12_qWordHere 55 = .ok (.ifCond .eq 5, 3) := by decide +kernel
theorem dX12_qWordHere_58 : decode cX12_qWordHere 58 = .ok (.iconst 3, 1) := by decide +kernel
theorem dX12_qWordHere_59 : decode cX12_qWordHere 59 = .ok (.ireturn, 1) := by decide +kernel
theorem dX12_qWordHere_60 : decode cX12_qWordHere 60 = .ok (.aload_n 0, 1) := by decide +kernel
theorem dX12_qWordHere_61 : decode cX12_qWordHere 61 = .ok (.aload_n 0, 1) := by decide +kernel
theorem dX12_qWordHere_62 : decode cX12_qWordHere 62 = .ok (.getfield 218, 3) := by decide +kernel
theorem dX12_qWordHere_65 : decode cX12_qWordHere 65 = .ok (.invokevirtual 280, 3) := by decide +kernel
theorem dX12_qWordHere_68 : decode cX12_qWordHere 68 = .ok (.ifCond .eq 5, 3) := by decide +kernel
theorem dX12_qWordHere_71 : decode cX12_qWordHere 71 = .ok (.iconst 4, 1) := by decide +kernel
theorem dX12_qWordHere_72 : decode cX12_qWordHere 72 = .ok (.ireturn, 1) := by decide +kernel
theorem dX12_qWordHere_73 : decode cX12_qWordHere 73 = .ok (.aload_n 0, 1) := by decide +kernel
theorem dX12_qWordHere_74 : decode cX12_qWordHere 74 = .ok (.aload_n 0, 1) := by decide +kernel
theorem dX12_qWordHere_75 : decode cX12_qWordHere 75 = .ok (.getfield 221, 3) := by decide +kernel
theorem dX12_qWordHere_78 : decode cX12_qWordHere 78 = .ok (.invokevirtual 280, 3) := by decide +kernel
theorem dX12_qWordHere_81 : decode cX12_qWordHere 81 = .ok (.ifCond .eq 5, 3) := by decide +kernel
theorem dX12_qWordHere_84 : decode cX12_qWordHere 84 = .ok (.iconst 5, 1) := by decide +kernel
theorem dX12_qWordHere_85 : decode cX12_qWordHere 85 = .ok (.ireturn, 1) := by decide +kernel
theorem dX12_qWordHere_86 : decode cX12_qWordHere 86 = .ok (.aload_n 0, 1) := by decide +kernel
theorem dX12_qWordHere_87 : decode cX12_qWordHere 87 = .ok (.aload_n 0, 1) := by decide +kernel
theorem dX12_qWordHere_88 : decode cX12_qWordHere 88 = .ok (.getfield 224, 3) := by decide +kernel
theorem dX12_qWordHere_91 : decode cX12_qWordHere 91 = .ok (.invokevirtual 280, 3) := by decide +kernel
theorem dX12_qWordHere_94 : decode cX12_qWordHere 94 = .ok (.ifCond .eq 6, 3) := by decide +kernel
theorem dX12_qWordHere_97 : decode cX12_qWordHere 97 = .ok (.bipush 6, 2) := by decide +kernel
theorem dX12_qWordHere_99 : decode cX12_qWordHere 99 = .ok (.ireturn, 1) := by decide +kernel
theorem dX12_qWordHere_100 : decode cX12_qWordHere 100 = .ok (.aload_n 0, 1) := by decide +kernel
theorem dX12_qWordHere_101 : decode cX12_qWordHere 101 = .ok (.aload_n 0, 1) := by decide +kernel
theorem dX12_qWordHere_102 : decode cX12_qWordHere 102 = .ok (.getfield 227, 3) := by decide +kernel
theorem dX12_qWordHere_105 : decode cX12_qWordHere 105 = .ok (.invokevirtual 280, 3) := by decide +kernel
theorem dX12_qWordHere_108 : decode cX12_qWordHere 108 = .ok (.ifCond .eq 6, 3) := by decide +kernel
theorem dX12_qWordHere_111 : decode cX12_qWordHere 111 = .ok (.bipush 7, 2) := by decide +kernel
theorem dX12_qWordHere_113 : decode cX12_qWordHere 113 = .ok (.ireturn, 1) := by decide +kernel
theorem dX12_qWordHere_114 : decode cX12_qWordHere 114 = .ok (.aload_n 0, 1) := by decide +kernel
theorem dX12_qWordHere_115 : decode cX12_qWordHere 115 = .ok (.aload_n 0, 1) := by decide +kernel
theorem dX12_qWordHere_116 : decode cX12_qWordHere 116 = .ok (.getfield 230, 3) := by decide +kernel
theorem dX12_qWordHere_119 : decode cX12_qWordHere 119 = .ok (.invokevirtual 280, 3) := by decide +kernel
theorem dX12_qWordHere_122 : decode cX12_qWordHere 122 = .ok (.ifCond .eq 6, 3) := by decide +kernel
theorem dX12_qWordHere_125 : decode cX12_qWordHere 125 = .ok (.bipush 8, 2) := by decide +kernel
theorem dX12_qWordHere_127 : decode cX12_qWordHere 127 = .ok (.ireturn, 1) := by decide +kernel
theorem dX12_qWordHere_128 : decode cX12_qWordHere 128 = .ok (.aload_n 0, 1) := by decide +kernel
theorem dX12_qWordHere_129 : decode cX12_qWordHere 129 = .ok (.aload_n 0, 1) := by decide +kernel
theorem dX12_qWordHere_130 : decode cX12_qWordHere 130 = .ok (.getfield 233, 3) := by decide +kernel
theorem dX12_qWordHere_133 : decode cX12_qWordHere 133 = .ok (.invokevirtual 280, 3) := by decide +kernel
theorem dX12_qWordHere_136 : decode cX12_qWordHere 136 = .ok (.ifCond .eq 6, 3) := by decide +kernel
theorem dX12_qWordHere_139 : decode cX12_qWordHere 139 = .ok (.bipush 9, 2) := by decide +kernel
theorem dX12_qWordHere_141 : decode cX12_qWordHere 141 = .ok (.ireturn, 1) := by decide +kernel
theorem dX12_qWordHere_142 : decode cX12_qWordHere 142 = .ok (.aload_n 0, 1) := by decide +kernel
theorem dX12_qWordHere_143 : decode cX12_qWordHere 143 = .ok (.aload_n 0, 1) := by decide +kernel
theorem dX12_qWordHere_144 : decode cX12_qWordHere 144 = .ok (.getfield 236, 3) := by decide +kernel
theorem dX12_qWordHere_147 : decode cX12_qWordHere 147 = .ok (.invokevirtual 280, 3) := by decide +kernel
theorem dX12_qWordHere_150 : decode cX12_qWordHere 150 = .ok (.ifCond .eq 6, 3) := by decide +kernel
theorem dX12_qWordHere_153 : decode cX12_qWordHere 153 = .ok (.bipush 10, 2) := by decide +kernel
theorem dX12_qWordHere_155 : decode cX12_qWordHere 155 = .ok (.ireturn, 1) := by decide +kernel
theorem dX12_qWordHere_156 : decode cX12_qWordHere 156 = .ok (.aload_n 0, 1) := by decide +kernel
theorem dX12_qWordHere_157 : decode cX12_qWordHere 157 = .ok (.aload_n 0, 1) := by decide +kernel
theorem dX12_qWordHere_158 : decode cX12_qWordHere 158 = .ok (.getfield 239, 3) := by decide +kernel
theorem dX12_qWordHere_161 : decode cX12_qWordHere 161 = .ok (.invokevirtual 280, 3) := by decide +kernel
theorem dX12_qWordHere_164 : decode cX12_qWordHere 164 = .ok (.ifCond .eq 6, 3) := by decide +kernel
theorem dX12_qWordHere_167 : decode cX12_qWordHere 167 = .ok (.bipush 11, 2) := by decide +kernel
theorem dX12_qWordHere_169 : decode cX12_qWordHere 169 = .ok (.ireturn, 1) := by decide +kernel
theorem dX12_qWordHere_170 : decode cX12_qWordHere 170 = .ok (.iconst (-1), 1) := by decide +kernel
theorem dX12_qWordHere_171 : decode cX12_qWordHere 171 = .ok (.ireturn, 1) := by decide +kernel
theorem dX12_isAllowed_0 : decode cX12_isAllowed 0 = .ok (.aload_n 0, 1) := by decide +kernel
theorem dX12_isAllowed_1 : decode cX12_isAllowed 1 = .ok (.getfield 315, 3) := by decide +kernel
theorem dX12_isAllowed_4 : decode cX12_isAllowed 4 = .ok (.ifCond .ne 16, 3) := by decide +kernel
theorem dX12_isAllowed_7 : decode cX12_isAllowed 7 = .ok (.iload_n 1, 1) := by decide +kernel
theorem dX12_isAllowed_8 : decode cX12_isAllowed 8 = .ok (.iconst 4, 1) := by decide +kernel
theorem dX12_isAllowed_9 : decode cX12_isAllowed 9 = .ok (.if_icmp .ge 7, 3) := by decide +kernel
theorem dX12_isAllowed_12 : decode cX12_isAllowed 12 = .ok (.iconst 1, 1) := by decide +kernel
theorem dX12_isAllowed_13 : decode cX12_isAllowed 13 = .ok (.goto 48, 3) := by decide +kernel
theorem dX12_isAllowed_16 : decode cX12_isAllowed 16 = .ok (.iconst 0, 1) := by decide +kernel
theorem dX12_isAllowed_17 : decode cX12_isAllowed 17 = .ok (.goto 44, 3) := by decide +kernel
theorem dX12_isAllowed_20 : decode cX12_isAllowed 20 = .ok (.aload_n 0, 1) := by decide +kernel
theorem dX12_isAllowed_21 : decode cX12_isAllowed 21 = .ok (.getfield 315, 3) := by decide +kernel
theorem dX12_isAllowed_24 : decode cX12_isAllowed 24 = .ok (.iconst 1, 1) := by decide +kernel
theorem dX12_isAllowed_25 : decode cX12_isAllowed 25 = .ok (.if_icmp .ne 21, 3) := by decide +kernel
theorem dX12_isAllowed_28 : decode cX12_isAllowed 28 = .ok (.iload_n 1, 1) := by decide +kernel
theorem dX12_isAllowed_29 : decode cX12_isAllowed 29 = .ok (.iconst 3, 1) := by decide +kernel
theorem dX12_isAllowed_30 : decode cX12_isAllowed 30 = .ok (.if_icmp .lt 8, 3) := by decide +kernel
theorem dX12_isAllowed_33 : decode cX12_isAllowed 33 = .ok (.iload_n 1, 1) := by decide +kernel
theorem dX12_isAllowed_34 : decode cX12_isAllowed 34 = .ok (.iconst 4, 1) := by decide +kernel
theorem dX12_isAllowed_35 : decode cX12_isAllowed 35 = .ok (.if_icmp .ne 7, 3) := by decide +kernel
theorem dX12_isAllowed_38 : decode cX12_isAllowed 38 = .ok (.iconst 1, 1) := by decide +kernel
theorem dX12_isAllowed_39 : decode cX12_isAllowed 39 = .ok (.goto 22, 3) := by decide +kernel
theorem dX12_isAllowed_42 : decode cX12_isAllowed 42 = .ok (.iconst 0, 1) := by decide +kernel
theorem dX12_isAllowed_43 : decode cX12_isAllowed 43 = .ok (.goto 18, 3) := by decide +kernel
theorem dX12_isAllowed_46 : decode cX12_isAllowed 46 = .ok (.iload_n 1, 1) := by decide +kernel
theorem dX12_isAllowed_47 : decode cX12_isAllowed 47 = .ok (.iconst 2, 1) := by decide +kernel
theorem dX12_isAllowed_48 : decode cX12_isAllowed 48 = .ok (.if_icmp .eq 8, 3) := by decide +kernel
theorem dX12_isAllowed_51 : decode cX12_isAllowed 51 = .ok (.iload_n 1, 1) := by decide +kernel
theorem dX12_isAllowed_52 : decode cX12_isAllowed 52 = .ok (.iconst 3, 1) := by decide +kernel
theorem dX12_isAllowed_53 : decode cX12_isAllowed 53 = .ok (.if_icmp .le 7, 3) := by decide +kernel
theorem dX12_isAllowed_56 : decode cX12_isAllowed 56 = .ok (.iconst 1, 1) := by decide +kernel
theorem dX12_isAllowed_57 : decode cX12_isAllowed 57 = .ok (.goto 4, 3) := by decide +kernel
theorem dX12_isAllowed_60 : decode cX12_isAllowed 60 = .ok (.iconst 0, 1) := by decide +kernel
theorem dX12_isAllowed_61 : decode cX12_isAllowed 61 = .ok (.ireturn, 1) := by decide +kernel
theorem dX12_qWordOf_0 : decode cX12_qWordOf 0 = .ok (.aload_n 0, 1) := by decide +kernel
theorem dX12_qWordOf_1 : decode cX12_qWordOf 1 = .ok (.invokevirtual 622, 3) := by decide +kernel
theorem dX12_qWordOf_4 : decode cX12_qWordOf 4 = .ok (.istore_n 3, 1) := by decide +kernel
theorem dX12_qWordOf_5 : decode cX12_qWordOf 5 = .ok (.iload_n 3, 1) := by decide +kernel
theorem dX12_qWordOf_6 : decode cX12_qWordOf 6 = .ok (.iload_n 1, 1) := by decide +kernel
theorem dX12_qWordOf_7 : decode cX12_qWordOf 7 = .ok (.if_icmp .lt 20, 3) := by decide +kernel
theorem dX12_qWordOf_10 : decode cX12_qWordOf 10 = .ok (.iload_n 3, 1) := by decide +kernel
theorem dX12_qWordOf_11 : decode cX12_qWordOf 11 = .ok (.iload_n 2, 1) := by decide +kernel
theorem dX12_qWordOf_12 : decode cX12_qWordOf 12 = .ok (.if_icmp .ge 15, 3) := by decide +kernel
theorem dX12_qWordOf_15 : decode cX12_qWordOf 15 = .ok (.aload_n 0, 1) := by decide +kernel
theorem dX12_qWordOf_16 : decode cX12_qWordOf 16 = .ok (.iload_n 3, 1) := by decide +kernel
theorem dX12_qWordOf_17 : decode cX12_qWordOf 17 = .ok (.invokevirtual 625, 3) := by decide +kernel
theorem dX12_qWordOf_20 : decode cX12_qWordOf 20 = .ok (.ifCond .eq 7, 3) := by decide +kernel
theorem dX12_qWordOf_23 : decode cX12_qWordOf 23 = .ok (.iload_n 3, 1) := by decide +kernel
theorem dX12_qWordOf_24 : decode cX12_qWordOf 24 = .ok (.goto 4, 3) := by decide +kernel
theorem dX12_qWordOf_27 : decode cX12_qWordOf 27 = .ok (.iconst (-1), 1) := by decide +kernel
theorem dX12_qWordOf_28 : decode cX12_qWordOf 28 = .ok (.ireturn, 1) := by decide +kernel
theorem dX12_takesSign_0 : decode cX12_takesSign 0 = .ok (.aload_n 0, 1) := by decide +kernel
theorem dX12_takesSign_1 : decode cX12_takesSign 1 = .ok (.getfield 257, 3) := by decide +kernel
theorem dX12_takesSign_4 : decode cX12_takesSign 4 = .ok (.ifCond .ne 11, 3) := by decide +kernel
theorem dX12_takesSign_7 : decode cX12_takesSign 7 = .ok (.aload_n 0, 1) := by decide +kernel
theorem dX12_takesSign_8 : decode cX12_takesSign 8 = .ok (.invokevirtual 269, 3) := by decide +kernel
theorem dX12_takesSign_11 : decode cX12_takesSign 11 = .ok (.iload_n 1, 1) := by decide +kernel
theorem dX12_takesSign_12 : decode cX12_takesSign 12 = .ok (.if_icmp .eq 5, 3) := by decide +kernel
theorem dX12_takesSign_15 : decode cX12_takesSign 15 = .ok (.iconst 0, 1) := by decide +kernel
theorem dX12_takesSign_16 : decode cX12_takesSign 16 = .ok (.ireturn, 1) := by decide +kernel
theorem dX12_takesSign_17 : decode cX12_takesSign 17 = .ok (.aload_n 0, 1) := by decide +kernel
theorem dX12_takesSign_18 : decode cX12_takesSign 18 = .ok (.dup, 1) := by decide +kernel
theorem dX12_takesSign_19 : decode cX12_takesSign 19 = .ok (.getfield 263, 3) := by decide +kernel
theorem dX12_takesSign_22 : decode cX12_takesSign 22 = .ok (.iconst 1, 1) := by decide +kernel
theorem dX12_takesSign_23 : decode cX12_takesSign 23 = .ok (.iadd, 1) := by decide +kernel
theorem dX12_takesSign_24 : decode cX12_takesSign 24 = .ok (.putfield 263, 3) := by decide +kernel
theorem dX12_takesSign_27 : decode cX12_takesSign 27 = .ok (.iconst 1, 1) := by decide +kernel
theorem dX12_takesSign_28 : decode cX12_takesSign 28 = .ok (.ireturn, 1) := by decide +kernel
theorem dX12_asksSign_0 : decode cX12_asksSign 0 = .ok (.aload_n 0, 1) := by decide +kernel
theorem dX12_asksSign_1 : decode cX12_asksSign 1 = .ok (.getfield 257, 3) := by decide +kernel
theorem dX12_asksSign_4 : decode cX12_asksSign 4 = .ok (.ifCond .ne 20, 3) := by decide +kernel
theorem dX12_asksSign_7 : decode cX12_asksSign 7 = .ok (.aload_n 0, 1) := by decide +kernel
theorem dX12_asksSign_8 : decode cX12_asksSign 8 = .ok (.iload_n 1, 1) := by decide +kernel
theorem dX12_asksSign_9 : decode cX12_asksSign 9 = .ok (.invokevirtual 291, 3) := by decide +kernel
theorem dX12_asksSign_12 : decode cX12_asksSign 12 = .ok (.ifCond .ne 12, 3) := by decide +kernel
theorem dX12_asksSign_15 : decode cX12_asksSign 15 = .ok (.aload_n 0, 1) := by decide +kernel
theorem dX12_asksSign_16 : decode cX12_asksSign 16 = .ok (.iconst 1, 1) := by decide +kernel
theorem dX12_asksSign_17 : decode cX12_asksSign 17 = .ok (.aload_n 0, 1) := by decide +kernel
theorem dX12_asksSign_18 : decode cX12_asksSign 18 = .ok (.getfield 263, 3) := by decide +kernel
theorem dX12_asksSign_21 : decode cX12_asksSign 21 = .ok (.invokevirtual 287, 3) := by decide +kernel
theorem dX12_asksSign_24 : decode cX12_asksSign 24 = .ok (.return_, 1) := by decide +kernel
theorem dX12_qAsksWord_0 : decode cX12_qAsksWord 0 = .ok (.iload_n 1, 1) := by decide +kernel
theorem dX12_qAsksWord_1 : decode cX12_qAsksWord 1 = .ok (.tableswitch 180 0 10 #[59, 70, 81, 92, 103, 114, 125, 136, 147, 158, 169], 59) := by decide +kernel
theorem dX12_qAsksWord_60 : decode cX12_qAsksWord 60 = .ok (.aload_n 0, 1) := by decide +kernel
theorem dX12_qAsksWord_61 : decode cX12_qAsksWord 61 = .ok (.aload_n 0, 1) := by decide +kernel
theorem dX12_qAsksWord_62 : decode cX12_qAsksWord 62 = .ok (.getfield 206, 3) := by decide +kernel
theorem dX12_qAsksWord_65 : decode cX12_qAsksWord 65 = .ok (.invokevirtual 318, 3) := by decide +kernel
theorem dX12_qAsksWord_68 : decode cX12_qAsksWord 68 = .ok (.goto 121, 3) := by decide +kernel
theorem dX12_qAsksWord_71 : decode cX12_qAsksWord 71 = .ok (.aload_n 0, 1) := by decide +kernel
theorem dX12_qAsksWord_72 : decode cX12_qAsksWord 72 = .ok (.aload_n 0, 1) := by decide +kernel
theorem dX12_qAsksWord_73 : decode cX12_qAsksWord 73 = .ok (.getfield 209, 3) := by decide +kernel
theorem dX12_qAsksWord_76 : decode cX12_qAsksWord 76 = .ok (.invokevirtual 318, 3) := by decide +kernel
theorem dX12_qAsksWord_79 : decode cX12_qAsksWord 79 = .ok (.goto 110, 3) := by decide +kernel
theorem dX12_qAsksWord_82 : decode cX12_qAsksWord 82 = .ok (.aload_n 0, 1) := by decide +kernel
theorem dX12_qAsksWord_83 : decode cX12_qAsksWord 83 = .ok (.aload_n 0, 1) := by decide +kernel
theorem dX12_qAsksWord_84 : decode cX12_qAsksWord 84 = .ok (.getfield 212, 3) := by decide +kernel
theorem dX12_qAsksWord_87 : decode cX12_qAsksWord 87 = .ok (.invokevirtual 318, 3) := by decide +kernel
theorem dX12_qAsksWord_90 : decode cX12_qAsksWord 90 = .ok (.goto 99, 3) := by decide +kernel
theorem dX12_qAsksWord_93 : decode cX12_qAsksWord 93 = .ok (.aload_n 0, 1) := by decide +kernel
theorem dX12_qAsksWord_94 : decode cX12_qAsksWord 94 = .ok (.aload_n 0, 1) := by decide +kernel
theorem dX12_qAsksWord_95 : decode cX12_qAsksWord 95 = .ok (.getfield 215, 3) := by decide +kernel
theorem dX12_qAsksWord_98 : decode cX12_qAsksWord 98 = .ok (.invokevirtual 318, 3) := by decide +kernel
theorem dX12_qAsksWord_101 : decode cX12_qAsksWord 101 = .ok (.goto 88, 3) := by decide +kernel
theorem dX12_qAsksWord_104 : decode cX12_qAsksWord 104 = .ok (.aload_n 0, 1) := by decide +kernel
theorem dX12_qAsksWord_105 : decode cX12_qAsksWord 105 = .ok (.aload_n 0, 1) := by decide +kernel
theorem dX12_qAsksWord_106 : decode cX12_qAsksWord 106 = .ok (.getfield 218, 3) := by decide +kernel
theorem dX12_qAsksWord_109 : decode cX12_qAsksWord 109 = .ok (.invokevirtual 318, 3) := by decide +kernel
theorem dX12_qAsksWord_112 : decode cX12_qAsksWord 112 = .ok (.goto 77, 3) := by decide +kernel
theorem dX12_qAsksWord_115 : decode cX12_qAsksWord 115 = .ok (.aload_n 0, 1) := by decide +kernel
theorem dX12_qAsksWord_116 : decode cX12_qAsksWord 116 = .ok (.aload_n 0, 1) := by decide +kernel
theorem dX12_qAsksWord_117 : decode cX12_qAsksWord 117 = .ok (.getfield 221, 3) := by decide +kernel
theorem dX12_qAsksWord_120 : decode cX12_qAsksWord 120 = .ok (.invokevirtual 318, 3) := by decide +kernel
theorem dX12_qAsksWord_123 : decode cX12_qAsksWord 123 = .ok (.goto 66, 3) := by decide +kernel
theorem dX12_qAsksWord_126 : decode cX12_qAsksWord 126 = .ok (.aload_n 0, 1) := by decide +kernel
theorem dX12_qAsksWord_127 : decode cX12_qAsksWord 127 = .ok (.aload_n 0, 1) := by decide +kernel
theorem dX12_qAsksWord_128 : decode cX12_qAsksWord 128 = .ok (.getfield 224, 3) := by decide +kernel
theorem dX12_qAsksWord_131 : decode cX12_qAsksWord 131 = .ok (.invokevirtual 318, 3) := by decide +kernel
theorem dX12_qAsksWord_134 : decode cX12_qAsksWord 134 = .ok (.goto 55, 3) := by decide +kernel
theorem dX12_qAsksWord_137 : decode cX12_qAsksWord 137 = .ok (.aload_n 0, 1) := by decide +kernel
theorem dX12_qAsksWord_138 : decode cX12_qAsksWord 138 = .ok (.aload_n 0, 1) := by decide +kernel
theorem dX12_qAsksWord_139 : decode cX12_qAsksWord 139 = .ok (.getfield 227, 3) := by decide +kernel
theorem dX12_qAsksWord_142 : decode cX12_qAsksWord 142 = .ok (.invokevirtual 318, 3) := by decide +kernel
theorem dX12_qAsksWord_145 : decode cX12_qAsksWord 145 = .ok (.goto 44, 3) := by decide +kernel
theorem dX12_qAsksWord_148 : decode cX12_qAsksWord 148 = .ok (.aload_n 0, 1) := by decide +kernel
theorem dX12_qAsksWord_149 : decode cX12_qAsksWord 149 = .ok (.aload_n 0, 1) := by decide +kernel
theorem dX12_qAsksWord_150 : decode cX12_qAsksWord 150 = .ok (.getfield 230, 3) := by decide +kernel
theorem dX12_qAsksWord_153 : decode cX12_qAsksWord 153 = .ok (.invokevirtual 318, 3) := by decide +kernel
theorem dX12_qAsksWord_156 : decode cX12_qAsksWord 156 = .ok (.goto 33, 3) := by decide +kernel
theorem dX12_qAsksWord_159 : decode cX12_qAsksWord 159 = .ok (.aload_n 0, 1) := by decide +kernel
theorem dX12_qAsksWord_160 : decode cX12_qAsksWord 160 = .ok (.aload_n 0, 1) := by decide +kernel
theorem dX12_qAsksWord_161 : decode cX12_qAsksWord 161 = .ok (.getfield 233, 3) := by decide +kernel
theorem dX12_qAsksWord_164 : decode cX12_qAsksWord 164 = .ok (.invokevirtual 318, 3) := by decide +kernel
theorem dX12_qAsksWord_167 : decode cX12_qAsksWord 167 = .ok (.goto 22, 3) := by decide +kernel
theorem dX12_qAsksWord_170 : decode cX12_qAsksWord 170 = .ok (.aload_n 0, 1) := by decide +kernel
theorem dX12_qAsksWord_171 : decode cX12_qAsksWord 171 = .ok (.aload_n 0, 1) := by decide +kernel
theorem dX12_qAsksWord_172 : decode cX12_qAsksWord 172 = .ok (.getfield 236, 3) := by decide +kernel
theorem dX12_qAsksWord_175 : decode cX12_qAsksWord 175 = .ok (.invokevirtual 318, 3) := by decide +kernel
theorem dX12_qAsksWord_178 : decode cX12_qAsksWord 178 = .ok (.goto 11, 3) := by decide +kernel
theorem dX12_qAsksWord_181 : decode cX12_qAsksWord 181 = .ok (.aload_n 0, 1) := by decide +kernel
theorem dX12_qAsksWord_182 : decode cX12_qAsksWord 182 = .ok (.aload_n 0, 1) := by decide +kernel
theorem dX12_qAsksWord_183 : decode cX12_qAsksWord 183 = .ok (.getfield 239, 3) := by decide +kernel
theorem dX12_qAsksWord_186 : decode cX12_qAsksWord 186 = .ok (.invokevirtual 318, 3) := by decide +kernel
theorem dX12_qAsksWord_189 : decode cX12_qAsksWord 189 = .ok (.return_, 1) := by decide +kernel
theorem dX12_isDigit_0 : decode cX12_isDigit 0 = .ok (.iload_n 0, 1) := by decide +kernel
theorem dX12_isDigit_1 : decode cX12_isDigit 1 = .ok (.bipush 48, 2) := by decide +kernel
theorem dX12_isDigit_3 : decode cX12_isDigit 3 = .ok (.if_icmp .lt 13, 3) := by decide +kernel
theorem dX12_isDigit_6 : decode cX12_isDigit 6 = .ok (.iload_n 0, 1) := by decide +kernel
theorem dX12_isDigit_7 : decode cX12_isDigit 7 = .ok (.bipush 57, 2) := by decide +kernel
theorem dX12_isDigit_9 : decode cX12_isDigit 9 = .ok (.if_icmp .gt 7, 3) := by decide +kernel
theorem dX12_isDigit_12 : decode cX12_isDigit 12 = .ok (.iconst 1, 1) := by decide +kernel
theorem dX12_isDigit_13 : decode cX12_isDigit 13 = .ok (.goto 4, 3) := by decide +kernel
theorem dX12_isDigit_16 : decode cX12_isDigit 16 = .ok (.iconst 0, 1) := by decide +kernel
theorem dX12_isDigit_17 : decode cX12_isDigit 17 = .ok (.ireturn, 1) := by decide +kernel
theorem dX12_number_0 : decode cX12_number 0 = .ok (.aload_n 0, 1) := by decide +kernel
theorem dX12_number_1 : decode cX12_number 1 = .ok (.getfield 257, 3) := by decide +kernel
theorem dX12_number_4 : decode cX12_number 4 = .ok (.ifCond .eq 5, 3) := by decide +kernel
theorem dX12_number_7 : decode cX12_number 7 = .ok (.iconst 0, 1) := by decide +kernel
theorem dX12_number_8 : decode cX12_number 8 = .ok (.ireturn, 1) := by decide +kernel
theorem dX12_number_9 : decode cX12_number 9 = .ok (.aload_n 0, 1) := by decide +kernel
theorem dX12_number_10 : decode cX12_number 10 = .ok (.invokevirtual 269, 3) := by decide +kernel
theorem dX12_number_13 : decode cX12_number 13 = .ok (.invokestatic 294, 3) := by decide +kernel
theorem dX12_number_16 : decode cX12_number 16 = .ok (.ifCond .eq 14, 3) := by decide +kernel
theorem dX12_number_19 : decode cX12_number 19 = .ok (.aload_n 0, 1) := by decide +kernel
theorem dX12_number_20 : decode cX12_number 20 = .ok (.getfield 263, 3) := by decide +kernel
theorem dX12_number_23 : decode cX12_number 23 = .ok (.aload_n 0, 1) := by decide +kernel
theorem dX12_number_24 : decode cX12_number 24 = .ok (.getfield 277, 3) := by decide +kernel
theorem dX12_number_27 : decode cX12_number 27 = .ok (.if_icmp .ne 14, 3) := by decide +kernel
theorem dX12_number_30 : decode cX12_number 30 = .ok (.aload_n 0, 1) := by decide +kernel
theorem dX12_number_31 : decode cX12_number 31 = .ok (.iconst 1, 1) := by decide +kernel
theorem dX12_number_32 : decode cX12_number 32 = .ok (.aload_n 0, 1) := by decide +kernel
theorem dX12_number_33 : decode cX12_number 33 = .ok (.getfield 263, 3) := by decide +kernel
theorem dX12_number_36 : decode cX12_number 36 = .ok (.invokevirtual 287, 3) := by decide +kernel
theorem dX12_number_39 : decode cX12_number 39 = .ok (.iconst 0, 1) := by decide +kernel
theorem dX12_number_40 : decode cX12_number 40 = .ok (.ireturn, 1) := by decide +kernel
theorem dX12_number_41 : decode cX12_number 41 = .ok (.aload_n 0, 1) := by decide +kernel
theorem dX12_number_42 : decode cX12_number 42 = .ok (.getfield 263, 3) := by decide +kernel
theorem dX12_number_45 : decode cX12_number 45 = .ok (.istore_n 3, 1) := by decide +kernel
theorem dX12_number_46 : decode cX12_number 46 = .ok (.iconst 0, 1) := by decide +kernel
theorem dX12_number_47 : decode cX12_number 47 = .ok (.istore 4, 2) := by decide +kernel
theorem dX12_number_49 : decode cX12_number 49 = .ok (.aload_n 0, 1) := by decide +kernel
theorem dX12_number_50 : decode cX12_number 50 = .ok (.getfield 263, 3) := by decide +kernel
theorem dX12_number_53 : decode cX12_number 53 = .ok (.aload_n 0, 1) := by decide +kernel
theorem dX12_number_54 : decode cX12_number 54 = .ok (.getfield 266, 3) := by decide +kernel
theorem dX12_number_57 : decode cX12_number 57 = .ok (.if_icmp .ge 72, 3) := by decide +kernel
theorem dX12_number_60 : decode cX12_number 60 = .ok (.aload_n 0, 1) := by decide +kernel
theorem dX12_number_61 : decode cX12_number 61 = .ok (.getfield 7, 3) := by decide +kernel
theorem dX12_number_64 : decode cX12_number 64 = .ok (.aload_n 0, 1) := by decide +kernel
theorem dX12_number_65 : decode cX12_number 65 = .ok (.getfield 263, 3) := by decide +kernel
theorem dX12_number_68 : decode cX12_number 68 = .ok (.iaload, 1) := by decide +kernel
theorem dX12_number_69 : decode cX12_number 69 = .ok (.invokestatic 294, 3) := by decide +kernel
theorem dX12_number_72 : decode cX12_number 72 = .ok (.ifCond .eq 57, 3) := by decide +kernel
theorem dX12_number_75 : decode cX12_number 75 = .ok (.aload_n 0, 1) := by decide +kernel
theorem dX12_number_76 : decode cX12_number 76 = .ok (.getfield 263, 3) := by decide +kernel
theorem dX12_number_79 : decode cX12_number 79 = .ok (.iload_n 3, 1) := by decide +kernel
theorem dX12_number_80 : decode cX12_number 80 = .ok (.isub, 1) := by decide +kernel
theorem dX12_number_81 : decode cX12_number 81 = .ok (.iconst 4, 1) := by decide +kernel
theorem dX12_number_82 : decode cX12_number 82 = .ok (.if_icmp .ne 14, 3) := by decide +kernel
theorem dX12_number_85 : decode cX12_number 85 = .ok (.aload_n 0, 1) := by decide +kernel
theorem dX12_number_86 : decode cX12_number 86 = .ok (.iconst 1, 1) := by decide +kernel
theorem dX12_number_87 : decode cX12_number 87 = .ok (.aload_n 0, 1) := by decide +kernel
theorem dX12_number_88 : decode cX12_number 88 = .ok (.getfield 263, 3) := by decide +kernel
theorem dX12_number_91 : decode cX12_number 91 = .ok (.invokevirtual 287, 3) := by decide +kernel
theorem dX12_number_94 : decode cX12_number 94 = .ok (.iconst 0, 1) := by decide +kernel
theorem dX12_number_95 : decode cX12_number 95 = .ok (.ireturn, 1) := by decide +kernel
theorem dX12_number_96 : decode cX12_number 96 = .ok (.bipush 10, 2) := by decide +kernel
theorem dX12_number_98 : decode cX12_number 98 = .ok (.iload 4, 2) := by decide +kernel
theorem dX12_number_100 : decode cX12_number 100 = .ok (.imul, 1) := by decide +kernel
theorem dX12_number_101 : decode cX12_number 101 = .ok (.aload_n 0, 1) := by decide +kernel
theorem dX12_number_102 : decode cX12_number 102 = .ok (.getfield 7, 3) := by decide +kernel
theorem dX12_number_105 : decode cX12_number 105 = .ok (.aload_n 0, 1) := by decide +kernel
theorem dX12_number_106 : decode cX12_number 106 = .ok (.getfield 263, 3) := by decide +kernel
theorem dX12_number_109 : decode cX12_number 109 = .ok (.iaload, 1) := by decide +kernel
theorem dX12_number_110 : decode cX12_number 110 = .ok (.iadd, 1) := by decide +kernel
theorem dX12_number_111 : decode cX12_number 111 = .ok (.bipush 48, 2) := by decide +kernel
theorem dX12_number_113 : decode cX12_number 113 = .ok (.isub, 1) := by decide +kernel
theorem dX12_number_114 : decode cX12_number 114 = .ok (.istore 4, 2) := by decide +kernel
theorem dX12_number_116 : decode cX12_number 116 = .ok (.aload_n 0, 1) := by decide +kernel
theorem dX12_number_117 : decode cX12_number 117 = .ok (.dup, 1) := by decide +kernel
theorem dX12_number_118 : decode cX12_number 118 = .ok (.getfield 263, 3) := by decide +kernel
theorem dX12_number_121 : decode cX12_number 121 = .ok (.iconst 1, 1) := by decide +kernel
theorem dX12_number_122 : decode cX12_number 122 = .ok (.iadd, 1) := by decide +kernel
theorem dX12_number_123 : decode cX12_number 123 = .ok (.putfield 263, 3) := by decide +kernel
theorem dX12_number_126 : decode cX12_number 126 = .ok (.goto (-77), 3) := by decide +kernel
theorem dX12_number_129 : decode cX12_number 129 = .ok (.aload_n 0, 1) := by decide +kernel
theorem dX12_number_130 : decode cX12_number 130 = .ok (.aload_n 0, 1) := by decide +kernel
theorem dX12_number_131 : decode cX12_number 131 = .ok (.getfield 263, 3) := by decide +kernel
theorem dX12_number_134 : decode cX12_number 134 = .ok (.putfield 277, 3) := by decide +kernel
theorem dX12_number_137 : decode cX12_number 137 = .ok (.aload_n 0, 1) := by decide +kernel
theorem dX12_number_138 : decode cX12_number 138 = .ok (.iload_n 3, 1) := by decide +kernel
theorem dX12_number_139 : decode cX12_number 139 = .ok (.putfield 297, 3) := by decide +kernel
theorem dX12_number_142 : decode cX12_number 142 = .ok (.iload 4, 2) := by decide +kernel
theorem dX12_number_144 : decode cX12_number 144 = .ok (.i2l, 1) := by decide +kernel
theorem dX12_number_145 : decode cX12_number 145 = .ok (.iload_n 1, 1) := by decide +kernel
theorem dX12_number_146 : decode cX12_number 146 = .ok (.i2l, 1) := by decide +kernel
theorem dX12_number_147 : decode cX12_number 147 = .ok (.iload_n 2, 1) := by decide +kernel
theorem dX12_number_148 : decode cX12_number 148 = .ok (.i2l, 1) := by decide +kernel
theorem dX12_number_149 : decode cX12_number 149 = .ok (.invokestatic 300, 3) := by decide +kernel
theorem dX12_number_152 : decode cX12_number 152 = .ok (.ifCond .ne 12, 3) := by decide +kernel
theorem dX12_number_155 : decode cX12_number 155 = .ok (.aload_n 0, 1) := by decide +kernel
theorem dX12_number_156 : decode cX12_number 156 = .ok (.iconst 2, 1) := by decide +kernel
theorem dX12_number_157 : decode cX12_number 157 = .ok (.aload_n 0, 1) := by decide +kernel
theorem dX12_number_158 : decode cX12_number 158 = .ok (.getfield 297, 3) := by decide +kernel
theorem dX12_number_161 : decode cX12_number 161 = .ok (.invokevirtual 287, 3) := by decide +kernel
theorem dX12_number_164 : decode cX12_number 164 = .ok (.iload 4, 2) := by decide +kernel
theorem dX12_number_166 : decode cX12_number 166 = .ok (.ireturn, 1) := by decide +kernel
theorem dX12_qDrops_0 : decode cX12_qDrops 0 = .ok (.aload_n 0, 1) := by decide +kernel
theorem dX12_qDrops_1 : decode cX12_qDrops 1 = .ok (.dup, 1) := by decide +kernel
theorem dX12_qDrops_2 : decode cX12_qDrops 2 = .ok (.getfield 337, 3) := by decide +kernel
theorem dX12_qDrops_5 : decode cX12_qDrops 5 = .ok (.iconst 1, 1) := by decide +kernel
theorem dX12_qDrops_6 : decode cX12_qDrops 6 = .ok (.isub, 1) := by decide +kernel
theorem dX12_qDrops_7 : decode cX12_qDrops 7 = .ok (.putfield 337, 3) := by decide +kernel
theorem dX12_qDrops_10 : decode cX12_qDrops 10 = .ok (.aload_n 0, 1) := by decide +kernel
theorem dX12_qDrops_11 : decode cX12_qDrops 11 = .ok (.aload_n 0, 1) := by decide +kernel
theorem dX12_qDrops_12 : decode cX12_qDrops 12 = .ok (.getfield 245, 3) := by decide +kernel
theorem dX12_qDrops_15 : decode cX12_qDrops 15 = .ok (.aload_n 0, 1) := by decide +kernel
theorem dX12_qDrops_16 : decode cX12_qDrops 16 = .ok (.getfield 337, 3) := by decide +kernel
theorem dX12_qDrops_19 : decode cX12_qDrops 19 = .ok (.iaload, 1) := by decide +kernel
theorem dX12_qDrops_20 : decode cX12_qDrops 20 = .ok (.invokevirtual 613, 3) := by decide +kernel
theorem dX12_qDrops_23 : decode cX12_qDrops 23 = .ok (.return_, 1) := by decide +kernel
theorem dX12_qEndsPart_0 : decode cX12_qEndsPart 0 = .ok (.aload_n 0, 1) := by decide +kernel
theorem dX12_qEndsPart_1 : decode cX12_qEndsPart 1 = .ok (.getfield 257, 3) := by decide +kernel
theorem dX12_qEndsPart_4 : decode cX12_qEndsPart 4 = .ok (.ifCond .ne 47, 3) := by decide +kernel
theorem dX12_qEndsPart_7 : decode cX12_qEndsPart 7 = .ok (.aload_n 0, 1) := by decide +kernel
theorem dX12_qEndsPart_8 : decode cX12_qEndsPart 8 = .ok (.getfield 337, 3) := by decide +kernel
theorem dX12_qEndsPart_11 : decode cX12_qEndsPart 11 = .ok (.aload_n 0, 1) := by decide +kernel
theorem dX12_qEndsPart_12 : decode cX12_qEndsPart 12 = .ok (.getfield 343, 3) := by decide +kernel
theorem dX12_qEndsPart_15 : decode cX12_qEndsPart 15 = .ok (.if_icmp .le 36, 3) := by decide +kernel
theorem dX12_qEndsPart_18 : decode cX12_qEndsPart 18 = .ok (.aload_n 0, 1) := by decide +kernel
theorem dX12_qEndsPart_19 : decode cX12_qEndsPart 19 = .ok (.getfield 245, 3) := by decide +kernel
theorem dX12_qEndsPart_22 : decode cX12_qEndsPart 22 = .ok (.aload_n 0, 1) := by decide +kernel
theorem dX12_qEndsPart_23 : decode cX12_qEndsPart 23 = .ok (.getfield 337, 3) := by decide +kernel
theorem dX12_qEndsPart_26 : decode cX12_qEndsPart 26 = .ok (.iconst 1, 1) := by decide +kernel
theorem dX12_qEndsPart_27 : decode cX12_qEndsPart 27 = .ok (.isub, 1) := by decide +kernel
theorem dX12_qEndsPart_28 : decode cX12_qEndsPart 28 = .ok (.iaload, 1) := by decide +kernel
theorem dX12_qEndsPart_29 : decode cX12_qEndsPart 29 = .ok (.bipush 60, 2) := by decide +kernel
theorem dX12_qEndsPart_31 : decode cX12_qEndsPart 31 = .ok (.if_icmp .lt 20, 3) := by decide +kernel
theorem dX12_qEndsPart_34 : decode cX12_qEndsPart 34 = .ok (.aload_n 0, 1) := by decide +kernel
theorem dX12_qEndsPart_35 : decode cX12_qEndsPart 35 = .ok (.dup, 1) := by decide +kernel
theorem dX12_qEndsPart_36 : decode cX12_qEndsPart 36 = .ok (.getfield 340, 3) := by decide +kernel
theorem dX12_qEndsPart_39 : decode cX12_qEndsPart 39 = .ok (.iconst 1, 1) := by decide +kernel
theorem dX12_qEndsPart_40 : decode cX12_qEndsPart 40 = .ok (.isub, 1) := by decide +kernel
theorem dX12_qEndsPart_41 : decode cX12_qEndsPart 41 = .ok (.putfield 340, 3) := by decide +kernel
theorem dX12_qEndsPart_44 : decode cX12_qEndsPart 44 = .ok (.aload_n 0, 1) := by decide +kernel
theorem dX12_qEndsPart_45 : decode cX12_qEndsPart 45 = .ok (.invokevirtual 619, 3) := by decide +kernel
theorem dX12_qEndsPart_48 : decode cX12_qEndsPart 48 = .ok (.goto (-48), 3) := by decide +kernel
theorem dX12_qEndsPart_51 : decode cX12_qEndsPart 51 = .ok (.return_, 1) := by decide +kernel
theorem dX12_qPartTold_0 : decode cX12_qPartTold 0 = .ok (.iconst 1, 1) := by decide +kernel
theorem dX12_qPartTold_1 : decode cX12_qPartTold 1 = .ok (.istore_n 1, 1) := by decide +kernel
theorem dX12_qPartTold_2 : decode cX12_qPartTold 2 = .ok (.iload_n 1, 1) := by decide +kernel
theorem dX12_qPartTold_3 : decode cX12_qPartTold 3 = .ok (.ifCond .eq 183, 3) := by decide +kernel
theorem dX12_qPartTold_6 : decode cX12_qPartTold 6 = .ok (.aload_n 0, 1) := by decide +kernel
theorem dX12_qPartTold_7 : decode cX12_qPartTold 7 = .ok (.getfield 257, 3) := by decide +kernel
theorem dX12_qPartTold_10 : decode cX12_qPartTold 10 = .ok (.ifCond .ne 176, 3) := by decide +kernel
theorem dX12_qPartTold_13 : decode cX12_qPartTold 13 = .ok (.aload_n 0, 1) := by decide +kernel
theorem dX12_qPartTold_14 : decode cX12_qPartTold 14 = .ok (.invokevirtual 269, 3) := by decide +kernel
theorem dX12_qPartTold_17 : decode cX12_qPartTold 17 = .ok (.istore_n 2, 1) := by decide +kernel
theorem dX12_qPartTold_18 : decode cX12_qPartTold 18 = .ok (.aload_n 0, 1) := by decide +kernel
theorem dX12_qPartTold_19 : decode cX12_qPartTold 19 = .ok (.bipush 10, 2) := by decide +kernel
theorem dX12_qPartTold_21 : decode cX12_qPartTold 21 = .ok (.bipush 12, 2) := by decide +kernel
theorem dX12_qPartTold_23 : decode cX12_qPartTold 23 = .ok (.invokevirtual 628, 3) := by decide +kernel
theorem dX12_qPartTold_26 : decode cX12_qPartTold 26 = .ok (.istore_n 3, 1) := by decide +kernel
theorem dX12_qPartTold_27 : decode cX12_qPartTold 27 = .ok (.iload_n 2, 1) := by decide +kernel
theorem dX12_qPartTold_28 : decode cX12_qPartTold 28 = .ok (.bipush 40, 2) := by decide +kernel
theorem dX12_qPartTold_30 : decode cX12_qPartTold 30 = .ok (.if_icmp .ne 26, 3) := by decide +kernel
theorem dX12_qPartTold_33 : decode cX12_qPartTold 33 = .ok (.aload_n 0, 1) := by decide +kernel
theorem dX12_qPartTold_34 : decode cX12_qPartTold 34 = .ok (.bipush 20, 2) := by decide +kernel
theorem dX12_qPartTold_36 : decode cX12_qPartTold 36 = .ok (.aload_n 0, 1) := by decide +kernel
theorem dX12_qPartTold_37 : decode cX12_qPartTold 37 = .ok (.getfield 263, 3) := by decide +kernel
theorem dX12_qPartTold_40 : decode cX12_qPartTold 40 = .ok (.invokevirtual 631, 3) := by decide +kernel
theorem dX12_qPartTold_43 : decode cX12_qPartTold 43 = .ok (.aload_n 0, 1) := by decide +kernel
theorem dX12_qPartTold_44 : decode cX12_qPartTold 44 = .ok (.dup, 1) := by decide +kernel
theorem dX12_qPartTold_45 : decode cX12_qPartTold 45 = .ok (.getfield 263, 3) := by decide +kernel
theorem dX12_qPartTold_48 : decode cX12_qPartTold 48 = .ok (.iconst 1, 1) := by decide +kernel
theorem dX12_qPartTold_49 : decode cX12_qPartTold 49 = .ok (.iadd, 1) := by decide +kernel
theorem dX12_qPartTold_50 : decode cX12_qPartTold 50 = .ok (.putfield 263, 3) := by decide +kernel
theorem dX12_qPartTold_53 : decode cX12_qPartTold 53 = .ok (.goto 130, 3) := by decide +kernel
theorem dX12_qPartTold_56 : decode cX12_qPartTold 56 = .ok (.aload_n 0, 1) := by decide +kernel
theorem dX12_qPartTold_57 : decode cX12_qPartTold 57 = .ok (.aload_n 0, 1) := by decide +kernel
theorem dX12_qPartTold_58 : decode cX12_qPartTold 58 = .ok (.getfield 200, 3) := by decide +kernel
theorem dX12_qPartTold_61 : decode cX12_qPartTold 61 = .ok (.invokevirtual 280, 3) := by decide +kernel
theorem dX12_qPartTold_64 : decode cX12_qPartTold 64 = .ok (.ifCond .ne 14, 3) := by decide +kernel
theorem dX12_qPartTold_67 : decode cX12_qPartTold 67 = .ok (.aload_n 0, 1) := by decide +kernel
theorem dX12_qPartTold_68 : decode cX12_qPartTold 68 = .ok (.aload_n 0, 1) := by decide +kernel
theorem dX12_qPartTold_69 : decode cX12_qPartTold 69 = .ok (.getfield 203, 3) := by decide +kernel
theorem dX12_qPartTold_72 : decode cX12_qPartTold 72 = .ok (.invokevirtual 280, 3) := by decide +kernel
theorem dX12_qPartTold_75 : decode cX12_qPartTold 75 = .ok (.ifCond .eq 78, 3) := by decide +kernel
theorem dX12_qPartTold_78 : decode cX12_qPartTold 78 = .ok (.aload_n 0, 1) := by decide +kernel
theorem dX12_qPartTold_79 : decode cX12_qPartTold 79 = .ok (.aload_n 0, 1) := by decide +kernel
theorem dX12_qPartTold_80 : decode cX12_qPartTold 80 = .ok (.getfield 200, 3) := by decide +kernel
theorem dX12_qPartTold_83 : decode cX12_qPartTold 83 = .ok (.invokevirtual 284, 3) := by decide +kernel
theorem dX12_qPartTold_86 : decode cX12_qPartTold 86 = .ok (.istore 4, 2) := by decide +kernel
theorem dX12_qPartTold_88 : decode cX12_qPartTold 88 = .ok (.iload 4, 2) := by decide +kernel
theorem dX12_qPartTold_90 : decode cX12_qPartTold 90 = .ok (.ifCond .ne 11, 3) := by decide +kernel
theorem dX12_qPartTold_93 : decode cX12_qPartTold 93 = .ok (.aload_n 0, 1) := by decide +kernel
theorem dX12_qPartTold_94 : decode cX12_qPartTold 94 = .ok (.aload_n 0, 1) := by decide +kernel
theorem dX12_qPartTold_95 : decode cX12_qPartTold 95 = .ok (.getfield 203, 3) := by decide +kernel
theorem dX12_qPartTold_98 : decode cX12_qPartTold 98 = .ok (.invokevirtual 318, 3) := by decide +kernel
theorem dX12_qPartTold_101 : decode cX12_qPartTold 101 = .ok (.aload_n 0, 1) := by decide +kernel
theorem dX12_qPartTold_102 : decode cX12_qPartTold 102 = .ok (.invokevirtual 269, 3) := by decide +kernel
theorem dX12_qPartTold_105 : decode cX12_qPartTold 105 = .ok (.bipush 40, 2) := by decide +kernel
theorem dX12_qPartTold_107 : decode cX12_qPartTold 107 = .ok (.if_icmp .ne 10, 3) := by decide +kernel
theorem dX12_qPartTold_110 : decode cX12_qPartTold 110 = .ok (.aload_n 0, 1) := by decide +kernel
theorem dX12_qPartTold_111 : decode cX12_qPartTold 111 = .ok (.getfield 263, 3) := by decide +kernel
theorem dX12_qPartTold_114 : decode cX12_qPartTold 114 = .ok (.goto 4, 3) := by decide +kernel
theorem dX12_qPartTold_117 : decode cX12_qPartTold 117 = .ok (.iconst (-1), 1) := by decide +kernel
theorem dX12_qPartTold_118 : decode cX12_qPartTold 118 = .ok (.istore 5, 2) := by decide +kernel
theorem dX12_qPartTold_120 : decode cX12_qPartTold 120 = .ok (.iload 5, 2) := by decide +kernel
theorem dX12_qPartTold_122 : decode cX12_qPartTold 122 = .ok (.iconst (-1), 1) := by decide +kernel
theorem dX12_qPartTold_123 : decode cX12_qPartTold 123 = .ok (.if_icmp .eq 21, 3) := by decide +kernel
theorem dX12_qPartTold_126 : decode cX12_qPartTold 126 = .ok (.aload_n 0, 1) := by decide +kernel
theorem dX12_qPartTold_127 : decode cX12_qPartTold 127 = .ok (.iload 4, 2) := by decide +kernel
theorem dX12_qPartTold_129 : decode cX12_qPartTold 129 = .ok (.ifCond .eq 8, 3) := by decide +kernel
theorem dX12_qPartTold_132 : decode cX12_qPartTold 132 = .ok (.bipush 21, 2) := by decide +kernel
theorem dX12_qPartTold_134 : decode cX12_qPartTold 134 = .ok (.goto 5, 3) := by decide +kernel
theorem dX12_qPartTold_137 : decode cX12_qPartTold 137 = .ok (.bipush 22, 2) := by decide +kernel
theorem dX12_qPartTold_139 : decode cX12_qPartTold 139 = .ok (.iload 5, 2) := by decide +kernel
theorem dX12_qPartTold_141 : decode cX12_qPartTold 141 = .ok (.invokevirtual 631, 3) := by decide +kernel
theorem dX12_qPartTold_144 : decode cX12_qPartTold 144 = .ok (.aload_n 0, 1) := by decide +kernel
theorem dX12_qPartTold_145 : decode cX12_qPartTold 145 = .ok (.bipush 40, 2) := by decide +kernel
theorem dX12_qPartTold_147 : decode cX12_qPartTold 147 = .ok (.invokevirtual 326, 3) := by decide +kernel
theorem dX12_qPartTold_150 : decode cX12_qPartTold 150 = .ok (.goto 33, 3) := by decide +kernel
theorem dX12_qPartTold_153 : decode cX12_qPartTold 153 = .ok (.iload_n 3, 1) := by decide +kernel
theorem dX12_qPartTold_154 : decode cX12_qPartTold 154 = .ok (.iconst (-1), 1) := by decide +kernel
theorem dX12_qPartTold_155 : decode cX12_qPartTold 155 = .ok (.if_icmp .eq 26, 3) := by decide +kernel
theorem dX12_qPartTold_158 : decode cX12_qPartTold 158 = .ok (.aload_n 0, 1) := by decide +kernel
theorem dX12_qPartTold_159 : decode cX12_qPartTold 159 = .ok (.bipush 60, 2) := by decide +kernel
theorem dX12_qPartTold_161 : decode cX12_qPartTold 161 = .ok (.iload_n 3, 1) := by decide +kernel
theorem dX12_qPartTold_162 : decode cX12_qPartTold 162 = .ok (.iadd, 1) := by decide +kernel
theorem dX12_qPartTold_163 : decode cX12_qPartTold 163 = .ok (.bipush 10, 2) := by decide +kernel
theorem dX12_qPartTold_165 : decode cX12_qPartTold 165 = .ok (.isub, 1) := by decide +kernel
theorem dX12_qPartTold_166 : decode cX12_qPartTold 166 = .ok (.aload_n 0, 1) := by decide +kernel
theorem dX12_qPartTold_167 : decode cX12_qPartTold 167 = .ok (.getfield 263, 3) := by decide +kernel
theorem dX12_qPartTold_170 : decode cX12_qPartTold 170 = .ok (.invokevirtual 631, 3) := by decide +kernel
theorem dX12_qPartTold_173 : decode cX12_qPartTold 173 = .ok (.aload_n 0, 1) := by decide +kernel
theorem dX12_qPartTold_174 : decode cX12_qPartTold 174 = .ok (.iload_n 3, 1) := by decide +kernel
theorem dX12_qPartTold_175 : decode cX12_qPartTold 175 = .ok (.invokevirtual 634, 3) := by decide +kernel
theorem dX12_qPartTold_178 : decode cX12_qPartTold 178 = .ok (.goto 5, 3) := by decide +kernel
theorem dX12_qPartTold_181 : decode cX12_qPartTold 181 = .ok (.iconst 0, 1) := by decide +kernel
theorem dX12_qPartTold_182 : decode cX12_qPartTold 182 = .ok (.istore_n 1, 1) := by decide +kernel
theorem dX12_qPartTold_183 : decode cX12_qPartTold 183 = .ok (.goto (-181), 3) := by decide +kernel
theorem dX12_qPartTold_186 : decode cX12_qPartTold 186 = .ok (.aload_n 0, 1) := by decide +kernel
theorem dX12_qPartTold_187 : decode cX12_qPartTold 187 = .ok (.getfield 257, 3) := by decide +kernel
theorem dX12_qPartTold_190 : decode cX12_qPartTold 190 = .ok (.ifCond .eq 4, 3) := by decide +kernel
theorem dX12_qPartTold_193 : decode cX12_qPartTold 193 = .ok (.return_, 1) := by decide +kernel
theorem dX12_qPartTold_194 : decode cX12_qPartTold 194 = .ok (.aload_n 0, 1) := by decide +kernel
theorem dX12_qPartTold_195 : decode cX12_qPartTold 195 = .ok (.iconst 0, 1) := by decide +kernel
theorem dX12_qPartTold_196 : decode cX12_qPartTold 196 = .ok (.bipush 10, 2) := by decide +kernel
theorem dX12_qPartTold_198 : decode cX12_qPartTold 198 = .ok (.invokevirtual 628, 3) := by decide +kernel
theorem dX12_qPartTold_201 : decode cX12_qPartTold 201 = .ok (.istore_n 2, 1) := by decide +kernel
theorem dX12_qPartTold_202 : decode cX12_qPartTold 202 = .ok (.iload_n 2, 1) := by decide +kernel
theorem dX12_qPartTold_203 : decode cX12_qPartTold 203 = .ok (.iconst (-1), 1) := by decide +kernel
theorem dX12_qPartTold_204 : decode cX12_qPartTold 204 = .ok (.if_icmp .eq 8, 3) := by decide +kernel
theorem dX12_qPartTold_207 : decode cX12_qPartTold 207 = .ok (.aload_n 0, 1) := by decide +kernel
theorem dX12_qPartTold_208 : decode cX12_qPartTold 208 = .ok (.iload_n 2, 1) := by decide +kernel
theorem dX12_qPartTold_209 : decode cX12_qPartTold 209 = .ok (.invokevirtual 634, 3) := by decide +kernel
theorem dX12_qPartTold_212 : decode cX12_qPartTold 212 = .ok (.aload_n 0, 1) := by decide +kernel
theorem dX12_qPartTold_213 : decode cX12_qPartTold 213 = .ok (.iload_n 2, 1) := by decide +kernel
theorem dX12_qPartTold_214 : decode cX12_qPartTold 214 = .ok (.iconst (-1), 1) := by decide +kernel
theorem dX12_qPartTold_215 : decode cX12_qPartTold 215 = .ok (.if_icmp .eq 10, 3) := by decide +kernel
theorem dX12_qPartTold_218 : decode cX12_qPartTold 218 = .ok (.bipush 40, 2) := by decide +kernel
theorem dX12_qPartTold_220 : decode cX12_qPartTold 220 = .ok (.iload_n 2, 1) := by decide +kernel
theorem dX12_qPartTold_221 : decode cX12_qPartTold 221 = .ok (.iadd, 1) := by decide +kernel
theorem dX12_qPartTold_222 : decode cX12_qPartTold 222 = .ok (.goto 15, 3) := by decide +kernel
theorem dX12_qPartTold_225 : decode cX12_qPartTold 225 = .ok (.sipush 1000, 3) := by decide +kernel
theorem dX12_qPartTold_228 : decode cX12_qPartTold 228 = .ok (.aload_n 0, 1) := by decide +kernel
theorem dX12_qPartTold_229 : decode cX12_qPartTold 229 = .ok (.iconst 0, 1) := by decide +kernel
theorem dX12_qPartTold_230 : decode cX12_qPartTold 230 = .ok (.sipush 9999, 3) := by decide +kernel
theorem dX12_qPartTold_233 : decode cX12_qPartTold 233 = .ok (.invokevirtual 322, 3) := by decide +kernel
theorem dX12_qPartTold_236 : decode cX12_qPartTold 236 = .ok (.iadd, 1) := by decide +kernel
theorem dX12_qPartTold_237 : decode cX12_qPartTold 237 = .ok (.invokevirtual 613, 3) := by decide +kernel
theorem dX12_qPartTold_240 : decode cX12_qPartTold 240 = .ok (.aload_n 0, 1) := by decide +kernel
theorem dX12_qPartTold_241 : decode cX12_qPartTold 241 = .ok (.invokevirtual 637, 3) := by decide +kernel
theorem dX12_qPartTold_244 : decode cX12_qPartTold 244 = .ok (.return_, 1) := by decide +kernel
theorem dX12_qIsBracket_0 : decode cX12_qIsBracket 0 = .ok (.iload_n 0, 1) := by decide +kernel
theorem dX12_qIsBracket_1 : decode cX12_qIsBracket 1 = .ok (.bipush 20, 2) := by decide +kernel
theorem dX12_qIsBracket_3 : decode cX12_qIsBracket 3 = .ok (.if_icmp .lt 13, 3) := by decide +kernel
theorem dX12_qIsBracket_6 : decode cX12_qIsBracket 6 = .ok (.iload_n 0, 1) := by decide +kernel
theorem dX12_qIsBracket_7 : decode cX12_qIsBracket 7 = .ok (.bipush 24, 2) := by decide +kernel
theorem dX12_qIsBracket_9 : decode cX12_qIsBracket 9 = .ok (.if_icmp .gt 7, 3) := by decide +kernel
theorem dX12_qIsBracket_12 : decode cX12_qIsBracket 12 = .ok (.iconst 1, 1) := by decide +kernel
theorem dX12_qIsBracket_13 : decode cX12_qIsBracket 13 = .ok (.goto 4, 3) := by decide +kernel
theorem dX12_qIsBracket_16 : decode cX12_qIsBracket 16 = .ok (.iconst 0, 1) := by decide +kernel
theorem dX12_qIsBracket_17 : decode cX12_qIsBracket 17 = .ok (.ireturn, 1) := by decide +kernel
theorem dX12_qBracket_0 : decode cX12_qBracket 0 = .ok (.aload_n 0, 1) := by decide +kernel
theorem dX12_qBracket_1 : decode cX12_qBracket 1 = .ok (.getfield 337, 3) := by decide +kernel
theorem dX12_qBracket_4 : decode cX12_qBracket 4 = .ok (.iconst 1, 1) := by decide +kernel
theorem dX12_qBracket_5 : decode cX12_qBracket 5 = .ok (.isub, 1) := by decide +kernel
theorem dX12_qBracket_6 : decode cX12_qBracket 6 = .ok (.istore_n 1, 1) := by decide +kernel
theorem dX12_qBracket_7 : decode cX12_qBracket 7 = .ok (.iload_n 1, 1) := by decide +kernel
theorem dX12_qBracket_8 : decode cX12_qBracket 8 = .ok (.aload_n 0, 1) := by decide +kernel
theorem dX12_qBracket_9 : decode cX12_qBracket 9 = .ok (.getfield 343, 3) := by decide +kernel
theorem dX12_qBracket_12 : decode cX12_qBracket 12 = .ok (.if_icmp .lt 21, 3) := by decide +kernel
theorem dX12_qBracket_15 : decode cX12_qBracket 15 = .ok (.aload_n 0, 1) := by decide +kernel
theorem dX12_qBracket_16 : decode cX12_qBracket 16 = .ok (.getfield 245, 3) := by decide +kernel
theorem dX12_qBracket_19 : decode cX12_qBracket 19 = .ok (.iload_n 1, 1) := by decide +kernel
theorem dX12_qBracket_20 : decode cX12_qBracket 20 = .ok (.iaload, 1) := by decide +kernel
theorem dX12_qBracket_21 : decode cX12_qBracket 21 = .ok (.invokestatic 616, 3) := by decide +kernel
theorem dX12_qBracket_24 : decode cX12_qBracket 24 = .ok (.ifCond .ne 9, 3) := by decide +kernel
theorem dX12_qBracket_27 : decode cX12_qBracket 27 = .ok (.iinc 1 (-1), 3) := by decide +kernel
theorem dX12_qBracket_30 : decode cX12_qBracket 30 = .ok (.goto (-23), 3) := by decide +kernel
theorem dX12_qBracket_33 : decode cX12_qBracket 33 = .ok (.iload_n 1, 1) := by decide +kernel
theorem dX12_qBracket_34 : decode cX12_qBracket 34 = .ok (.aload_n 0, 1) := by decide +kernel
theorem dX12_qBracket_35 : decode cX12_qBracket 35 = .ok (.getfield 343, 3) := by decide +kernel
theorem dX12_qBracket_38 : decode cX12_qBracket 38 = .ok (.if_icmp .lt 12, 3) := by decide +kernel
theorem dX12_qBracket_41 : decode cX12_qBracket 41 = .ok (.aload_n 0, 1) := by decide +kernel
theorem dX12_qBracket_42 : decode cX12_qBracket 42 = .ok (.getfield 245, 3) := by decide +kernel
theorem dX12_qBracket_45 : decode cX12_qBracket 45 = .ok (.iload_n 1, 1) := by decide +kernel
theorem dX12_qBracket_46 : decode cX12_qBracket 46 = .ok (.iaload, 1) := by decide +kernel
theorem dX12_qBracket_47 : decode cX12_qBracket 47 = .ok (.goto 4, 3) := by decide +kernel
theorem dX12_qBracket_50 : decode cX12_qBracket 50 = .ok (.iconst (-1), 1) := by decide +kernel
theorem dX12_qBracket_51 : decode cX12_qBracket 51 = .ok (.ireturn, 1) := by decide +kernel
theorem dX12_qDropsToBracket_0 : decode cX12_qDropsToBracket 0 = .ok (.aload_n 0, 1) := by decide +kernel
theorem dX12_qDropsToBracket_1 : decode cX12_qDropsToBracket 1 = .ok (.getfield 337, 3) := by decide +kernel
theorem dX12_qDropsToBracket_4 : decode cX12_qDropsToBracket 4 = .ok (.aload_n 0, 1) := by decide +kernel
theorem dX12_qDropsToBracket_5 : decode cX12_qDropsToBracket 5 = .ok (.getfield 343, 3) := by decide +kernel
theorem dX12_qDropsToBracket_8 : decode cX12_qDropsToBracket 8 = .ok (.if_icmp .le 27, 3) := by decide +kernel
theorem dX12_qDropsToBracket_11 : decode cX12_qDropsToBracket 11 = .ok (.aload_n 0, 1) := by decide +kernel
theorem dX12_qDropsToBracket_12 : decode cX12_qDropsToBracket 12 = .ok (.getfield 245, 3) := by decide +kernel
theorem dX12_qDropsToBracket_15 : decode cX12_qDropsToBracket 15 = .ok (.aload_n 0, 1) := by decide +kernel
theorem dX12_qDropsToBracket_16 : decode cX12_qDropsToBracket 16 = .ok (.getfield 337, 3) := by decide +kernel
theorem dX12_qDropsToBracket_19 : decode cX12_qDropsToBracket 19 = .ok (.iconst 1, 1) := by decide +kernel
theorem dX12_qDropsToBracket_20 : decode cX12_qDropsToBracket 20 = .ok (.isub, 1) := by decide +kernel
theorem dX12_qDropsToBracket_21 : decode cX12_qDropsToBracket 21 = .ok (.iaload, 1) := by decide +kernel
theorem dX12_qDropsToBracket_22 : decode cX12_qDropsToBracket 22 = .ok (.invokestatic 616, 3) := by decide +kernel
theorem dX12_qDropsToBracket_25 : decode cX12_qDropsToBracket 25 = .ok (.ifCond .ne 10, 3) := by decide +kernel
theorem dX12_qDropsToBracket_28 : decode cX12_qDropsToBracket 28 = .ok (.aload_n 0, 1) := by decide +kernel
theorem dX12_qDropsToBracket_29 : decode cX12_qDropsToBracket 29 = .ok (.invokevirtual 619, 3) := by decide +kernel
theorem dX12_qDropsToBracket_32 : decode cX12_qDropsToBracket 32 = .ok (.goto (-32), 3) := by decide +kernel
theorem dX12_qDropsToBracket_35 : decode cX12_qDropsToBracket 35 = .ok (.return_, 1) := by decide +kernel
theorem dX12_qIsOn_0 : decode cX12_qIsOn 0 = .ok (.aload_n 0, 1) := by decide +kernel
theorem dX12_qIsOn_1 : decode cX12_qIsOn 1 = .ok (.getfield 337, 3) := by decide +kernel
theorem dX12_qIsOn_4 : decode cX12_qIsOn 4 = .ok (.ifCond .le 22, 3) := by decide +kernel
theorem dX12_qIsOn_7 : decode cX12_qIsOn 7 = .ok (.aload_n 0, 1) := by decide +kernel
theorem dX12_qIsOn_8 : decode cX12_qIsOn 8 = .ok (.getfield 245, 3) := by decide +kernel
theorem dX12_qIsOn_11 : decode cX12_qIsOn 11 = .ok (.aload_n 0, 1) := by decide +kernel
theorem dX12_qIsOn_12 : decode cX12_qIsOn 12 = .ok (.getfield 337, 3) := by decide +kernel
theorem dX12_qIsOn_15 : decode cX12_qIsOn 15 = .ok (.iconst 1, 1) := by decide +kernel
theorem dX12_qIsOn_16 : decode cX12_qIsOn 16 = .ok (.isub, 1) := by decide +kernel
theorem dX12_qIsOn_17 : decode cX12_qIsOn 17 = .ok (.iaload, 1) := by decide +kernel
theorem dX12_qIsOn_18 : decode cX12_qIsOn 18 = .ok (.iload_n 1, 1) := by decide +kernel
theorem dX12_qIsOn_19 : decode cX12_qIsOn 19 = .ok (.if_icmp .ne 7, 3) := by decide +kernel
theorem dX12_qIsOn_22 : decode cX12_qIsOn 22 = .ok (.iconst 1, 1) := by decide +kernel
theorem dX12_qIsOn_23 : decode cX12_qIsOn 23 = .ok (.goto 4, 3) := by decide +kernel
theorem dX12_qIsOn_26 : decode cX12_qIsOn 26 = .ok (.iconst 0, 1) := by decide +kernel
theorem dX12_qIsOn_27 : decode cX12_qIsOn 27 = .ok (.ireturn, 1) := by decide +kernel
theorem dX12_qGoesOn_0 : decode cX12_qGoesOn 0 = .ok (.aload_n 0, 1) := by decide +kernel
theorem dX12_qGoesOn_1 : decode cX12_qGoesOn 1 = .ok (.getfield 257, 3) := by decide +kernel
theorem dX12_qGoesOn_4 : decode cX12_qGoesOn 4 = .ok (.ifCond .ne 118, 3) := by decide +kernel
theorem dX12_qGoesOn_7 : decode cX12_qGoesOn 7 = .ok (.aload_n 0, 1) := by decide +kernel
theorem dX12_qGoesOn_8 : decode cX12_qGoesOn 8 = .ok (.invokevirtual 269, 3) := by decide +kernel
theorem dX12_qGoesOn_11 : decode cX12_qGoesOn 11 = .ok (.bipush 41, 2) := by decide +kernel
theorem dX12_qGoesOn_13 : decode cX12_qGoesOn 13 = .ok (.if_icmp .ne 109, 3) := by decide +kernel
theorem dX12_qGoesOn_16 : decode cX12_qGoesOn 16 = .ok (.aload_n 0, 1) := by decide +kernel
theorem dX12_qGoesOn_17 : decode cX12_qGoesOn 17 = .ok (.invokevirtual 640, 3) := by decide +kernel
theorem dX12_qGoesOn_20 : decode cX12_qGoesOn 20 = .ok (.bipush 20, 2) := by decide +kernel
theorem dX12_qGoesOn_22 : decode cX12_qGoesOn 22 = .ok (.if_icmp .eq 21, 3) := by decide +kernel
theorem dX12_qGoesOn_25 : decode cX12_qGoesOn 25 = .ok (.aload_n 0, 1) := by decide +kernel
theorem dX12_qGoesOn_26 : decode cX12_qGoesOn 26 = .ok (.invokevirtual 640, 3) := by decide +kernel
theorem dX12_qGoesOn_29 : decode cX12_qGoesOn 29 = .ok (.bipush 23, 2) := by decide +kernel
theorem dX12_qGoesOn_31 : decode cX12_qGoesOn 31 = .ok (.if_icmp .eq 12, 3) := by decide +kernel
theorem dX12_qGoesOn_34 : decode cX12_qGoesOn 34 = .ok (.aload_n 0, 1) := by decide +kernel
theorem dX12_qGoesOn_35 : decode cX12_qGoesOn 35 = .ok (.invokevirtual 640, 3) := by decide +kernel
theorem dX12_qGoesOn_38 : decode cX12_qGoesOn 38 = .ok (.bipush 24, 2) := by decide +kernel
theorem dX12_qGoesOn_40 : decode cX12_qGoesOn 40 = .ok (.if_icmp .ne 82, 3) := by decide +kernel
theorem dX12_qGoesOn_43 : decode cX12_qGoesOn 43 = .ok (.aload_n 0, 1) := by decide +kernel
theorem dX12_qGoesOn_44 : decode cX12_qGoesOn 44 = .ok (.dup, 1) := by decide +kernel
theorem dX12_qGoesOn_45 : decode cX12_qGoesOn 45 = .ok (.getfield 263, 3) := by decide +kernel
theorem dX12_qGoesOn_48 : decode cX12_qGoesOn 48 = .ok (.iconst 1, 1) := by decide +kernel
theorem dX12_qGoesOn_49 : decode cX12_qGoesOn 49 = .ok (.iadd, 1) := by decide +kernel
theorem dX12_qGoesOn_50 : decode cX12_qGoesOn 50 = .ok (.putfield 263, 3) := by decide +kernel
theorem dX12_qGoesOn_53 : decode cX12_qGoesOn 53 = .ok (.aload_n 0, 1) := by decide +kernel
theorem dX12_qGoesOn_54 : decode cX12_qGoesOn 54 = .ok (.invokevirtual 643, 3) := by decide +kernel
theorem dX12_qGoesOn_57 : decode cX12_qGoesOn 57 = .ok (.aload_n 0, 1) := by decide +kernel
theorem dX12_qGoesOn_58 : decode cX12_qGoesOn 58 = .ok (.dup, 1) := by decide +kernel
theorem dX12_qGoesOn_59 : decode cX12_qGoesOn 59 = .ok (.getfield 337, 3) := by decide +kernel
theorem dX12_qGoesOn_62 : decode cX12_qGoesOn 62 = .ok (.iconst 1, 1) := by decide +kernel
theorem dX12_qGoesOn_63 : decode cX12_qGoesOn 63 = .ok (.isub, 1) := by decide +kernel
theorem dX12_qGoesOn_64 : decode cX12_qGoesOn 64 = .ok (.putfield 337, 3) := by decide +kernel
theorem dX12_qGoesOn_67 : decode cX12_qGoesOn 67 = .ok (.aload_n 0, 1) := by decide +kernel
theorem dX12_qGoesOn_68 : decode cX12_qGoesOn 68 = .ok (.dup, 1) := by decide +kernel
theorem dX12_qGoesOn_69 : decode cX12_qGoesOn 69 = .ok (.getfield 340, 3) := by decide +kernel
theorem dX12_qGoesOn_72 : decode cX12_qGoesOn 72 = .ok (.iconst 1, 1) := by decide +kernel
theorem dX12_qGoesOn_73 : decode cX12_qGoesOn 73 = .ok (.isub, 1) := by decide +kernel
theorem dX12_qGoesOn_74 : decode cX12_qGoesOn 74 = .ok (.putfield 340, 3) := by decide +kernel
theorem dX12_qGoesOn_77 : decode cX12_qGoesOn 77 = .ok (.aload_n 0, 1) := by decide +kernel
theorem dX12_qGoesOn_78 : decode cX12_qGoesOn 78 = .ok (.getfield 245, 3) := by decide +kernel
theorem dX12_qGoesOn_81 : decode cX12_qGoesOn 81 = .ok (.aload_n 0, 1) := by decide +kernel
theorem dX12_qGoesOn_82 : decode cX12_qGoesOn 82 = .ok (.getfield 337, 3) := by decide +kernel
theorem dX12_qGoesOn_85 : decode cX12_qGoesOn 85 = .ok (.iaload, 1) := by decide +kernel
theorem dX12_qGoesOn_86 : decode cX12_qGoesOn 86 = .ok (.bipush 20, 2) := by decide +kernel
theorem dX12_qGoesOn_88 : decode cX12_qGoesOn 88 = .ok (.if_icmp .eq 27, 3) := by decide +kernel
theorem dX12_qGoesOn_91 : decode cX12_qGoesOn 91 = .ok (.aload_n 0, 1) := by decide +kernel
theorem dX12_qGoesOn_92 : decode cX12_qGoesOn 92 = .ok (.aload_n 0, 1) := by decide +kernel
theorem dX12_qGoesOn_93 : decode cX12_qGoesOn 93 = .ok (.getfield 245, 3) := by decide +kernel
theorem dX12_qGoesOn_96 : decode cX12_qGoesOn 96 = .ok (.aload_n 0, 1) := by decide +kernel
theorem dX12_qGoesOn_97 : decode cX12_qGoesOn 97 = .ok (.getfield 337, 3) := by decide +kernel
theorem dX12_qGoesOn_100 : decode cX12_qGoesOn 100 = .ok (.iaload, 1) := by decide +kernel
theorem dX12_qGoesOn_101 : decode cX12_qGoesOn 101 = .ok (.bipush 23, 2) := by decide +kernel
theorem dX12_qGoesOn_103 : decode cX12_qGoesOn 103 = .ok (.if_icmp .ne 7, 3) := by decide +kernel
theorem dX12_qGoesOn_106 : decode cX12_qGoesOn 106 = .ok (.iconst 5, 1) := by decide +kernel
theorem dX12_qGoesOn_107 : decode cX12_qGoesOn 107 = .ok (.goto 5, 3) := by decide +kernel
theorem dX12_qGoesOn_110 : decode cX12_qGoesOn 110 = .ok (.bipush 6, 2) := by decide +kernel
theorem dX12_qGoesOn_112 : decode cX12_qGoesOn 112 = .ok (.invokevirtual 613, 3) := by decide +kernel
theorem dX12_qGoesOn_115 : decode cX12_qGoesOn 115 = .ok (.aload_n 0, 1) := by decide +kernel
theorem dX12_qGoesOn_116 : decode cX12_qGoesOn 116 = .ok (.invokevirtual 637, 3) := by decide +kernel
theorem dX12_qGoesOn_119 : decode cX12_qGoesOn 119 = .ok (.goto (-119), 3) := by decide +kernel
theorem dX12_qGoesOn_122 : decode cX12_qGoesOn 122 = .ok (.aload_n 0, 1) := by decide +kernel
theorem dX12_qGoesOn_123 : decode cX12_qGoesOn 123 = .ok (.bipush 42, 2) := by decide +kernel
theorem dX12_qGoesOn_125 : decode cX12_qGoesOn 125 = .ok (.invokevirtual 291, 3) := by decide +kernel
theorem dX12_qGoesOn_128 : decode cX12_qGoesOn 128 = .ok (.ifCond .ne 12, 3) := by decide +kernel
theorem dX12_qGoesOn_131 : decode cX12_qGoesOn 131 = .ok (.aload_n 0, 1) := by decide +kernel
theorem dX12_qGoesOn_132 : decode cX12_qGoesOn 132 = .ok (.bipush 47, 2) := by decide +kernel
theorem dX12_qGoesOn_134 : decode cX12_qGoesOn 134 = .ok (.invokevirtual 291, 3) := by decide +kernel
theorem dX12_qGoesOn_137 : decode cX12_qGoesOn 137 = .ok (.ifCond .eq 70, 3) := by decide +kernel
theorem dX12_qGoesOn_140 : decode cX12_qGoesOn 140 = .ok (.aload_n 0, 1) := by decide +kernel
theorem dX12_qGoesOn_141 : decode cX12_qGoesOn 141 = .ok (.getfield 7, 3) := by decide +kernel
theorem dX12_qGoesOn_144 : decode cX12_qGoesOn 144 = .ok (.aload_n 0, 1) := by decide +kernel
theorem dX12_qGoesOn_145 : decode cX12_qGoesOn 145 = .ok (.getfield 263, 3) := by decide +kernel
theorem dX12_qGoesOn_148 : decode cX12_qGoesOn 148 = .ok (.iconst 1, 1) := by decide +kernel
theorem dX12_qGoesOn_149 : decode cX12_qGoesOn 149 = .ok (.isub, 1) := by decide +kernel
theorem dX12_qGoesOn_150 : decode cX12_qGoesOn 150 = .ok (.iaload, 1) := by decide +kernel
theorem dX12_qGoesOn_151 : decode cX12_qGoesOn 151 = .ok (.bipush 42, 2) := by decide +kernel
theorem dX12_qGoesOn_153 : decode cX12_qGoesOn 153 = .ok (.if_icmp .ne 7, 3) := by decide +kernel
theorem dX12_qGoesOn_156 : decode cX12_qGoesOn 156 = .ok (.iconst 3, 1) := by decide +kernel
theorem dX12_qGoesOn_157 : decode cX12_qGoesOn 157 = .ok (.goto 4, 3) := by decide +kernel
theorem dX12_qGoesOn_160 : decode cX12_qGoesOn 160 = .ok (.iconst 4, 1) := by decide +kernel
theorem dX12_qGoesOn_161 : decode cX12_qGoesOn 161 = .ok (.istore_n 1, 1) := by decide +kernel
theorem dX12_qGoesOn_162 : decode cX12_qGoesOn 162 = .ok (.aload_n 0, 1) := by decide +kernel
theorem dX12_qGoesOn_163 : decode cX12_qGoesOn 163 = .ok (.iconst 3, 1) := by decide +kernel
theorem dX12_qGoesOn_164 : decode cX12_qGoesOn 164 = .ok (.invokevirtual 646, 3) := by decide +kernel
theorem dX12_qGoesOn_167 : decode cX12_qGoesOn 167 = .ok (.ifCond .ne 11, 3) := by decide +kernel
theorem dX12_qGoesOn_170 : decode cX12_qGoesOn 170 = .ok (.aload_n 0, 1) := by decide +kernel
theorem dX12_qGoesOn_171 : decode cX12_qGoesOn 171 = .ok (.iconst 4, 1) := by decide +kernel
theorem dX12_qGoesOn_172 : decode cX12_qGoesOn 172 = .ok (.invokevirtual 646, 3) := by decide +kernel
theorem dX12_qGoesOn_175 : decode cX12_qGoesOn 175 = .ok (.ifCond .eq 10, 3) := by decide +kernel
theorem dX12_qGoesOn_178 : decode cX12_qGoesOn 178 = .ok (.aload_n 0, 1) := by decide +kernel
theorem dX12_qGoesOn_179 : decode cX12_qGoesOn 179 = .ok (.invokevirtual 619, 3) := by decide +kernel
theorem dX12_qGoesOn_182 : decode cX12_qGoesOn 182 = .ok (.goto (-20), 3) := by decide +kernel
theorem dX12_qGoesOn_185 : decode cX12_qGoesOn 185 = .ok (.aload_n 0, 1) := by decide +kernel
theorem dX12_qGoesOn_186 : decode cX12_qGoesOn 186 = .ok (.getfield 245, 3) := by decide +kernel
theorem dX12_qGoesOn_189 : decode cX12_qGoesOn 189 = .ok (.aload_n 0, 1) := by decide +kernel
theorem dX12_qGoesOn_190 : decode cX12_qGoesOn 190 = .ok (.getfield 337, 3) := by decide +kernel
theorem dX12_qGoesOn_193 : decode cX12_qGoesOn 193 = .ok (.iload_n 1, 1) := by decide +kernel
theorem dX12_qGoesOn_194 : decode cX12_qGoesOn 194 = .ok (.iastore, 1) := by decide +kernel
theorem dX12_qGoesOn_195 : decode cX12_qGoesOn 195 = .ok (.aload_n 0, 1) := by decide +kernel
theorem dX12_qGoesOn_196 : decode cX12_qGoesOn 196 = .ok (.dup, 1) := by decide +kernel
theorem dX12_qGoesOn_197 : decode cX12_qGoesOn 197 = .ok (.getfield 337, 3) := by decide +kernel
theorem dX12_qGoesOn_200 : decode cX12_qGoesOn 200 = .ok (.iconst 1, 1) := by decide +kernel
theorem dX12_qGoesOn_201 : decode cX12_qGoesOn 201 = .ok (.iadd, 1) := by decide +kernel
theorem dX12_qGoesOn_202 : decode cX12_qGoesOn 202 = .ok (.putfield 337, 3) := by decide +kernel
theorem dX12_qGoesOn_205 : decode cX12_qGoesOn 205 = .ok (.iconst 1, 1) := by decide +kernel
theorem dX12_qGoesOn_206 : decode cX12_qGoesOn 206 = .ok (.ireturn, 1) := by decide +kernel
theorem dX12_qGoesOn_207 : decode cX12_qGoesOn 207 = .ok (.aload_n 0, 1) := by decide +kernel
theorem dX12_qGoesOn_208 : decode cX12_qGoesOn 208 = .ok (.bipush 43, 2) := by decide +kernel
theorem dX12_qGoesOn_210 : decode cX12_qGoesOn 210 = .ok (.invokevirtual 291, 3) := by decide +kernel
theorem dX12_qGoesOn_213 : decode cX12_qGoesOn 213 = .ok (.ifCond .ne 12, 3) := by decide +kernel
theorem dX12_qGoesOn_216 : decode cX12_qGoesOn 216 = .ok (.aload_n 0, 1) := by decide +kernel
theorem dX12_qGoesOn_217 : decode cX12_qGoesOn 217 = .ok (.bipush 45, 2) := by decide +kernel
theorem dX12_qGoesOn_219 : decode cX12_qGoesOn 219 = .ok (.invokevirtual 291, 3) := by decide +kernel
theorem dX12_qGoesOn_222 : decode cX12_qGoesOn 222 = .ok (.ifCond .eq 86, 3) := by decide +kernel
theorem dX12_qGoesOn_225 : decode cX12_qGoesOn 225 = .ok (.aload_n 0, 1) := by decide +kernel
theorem dX12_qGoesOn_226 : decode cX12_qGoesOn 226 = .ok (.getfield 7, 3) := by decide +kernel
theorem dX12_qGoesOn_229 : decode cX12_qGoesOn 229 = .ok (.aload_n 0, 1) := by decide +kernel
theorem dX12_qGoesOn_230 : decode cX12_qGoesOn 230 = .ok (.getfield 263, 3) := by decide +kernel
theorem dX12_qGoesOn_233 : decode cX12_qGoesOn 233 = .ok (.iconst 1, 1) := by decide +kernel
theorem dX12_qGoesOn_234 : decode cX12_qGoesOn 234 = .ok (.isub, 1) := by decide +kernel
theorem dX12_qGoesOn_235 : decode cX12_qGoesOn 235 = .ok (.iaload, 1) := by decide +kernel
theorem dX12_qGoesOn_236 : decode cX12_qGoesOn 236 = .ok (.bipush 43, 2) := by decide +kernel
theorem dX12_qGoesOn_238 : decode cX12_qGoesOn 238 = .ok (.if_icmp .ne 7, 3) := by decide +kernel
theorem dX12_qGoesOn_241 : decode cX12_qGoesOn 241 = .ok (.iconst 1, 1) := by decide +kernel
theorem dX12_qGoesOn_242 : decode cX12_qGoesOn 242 = .ok (.goto 4, 3) := by decide +kernel
theorem dX12_qGoesOn_245 : decode cX12_qGoesOn 245 = .ok (.iconst 2, 1) := by decide +kernel
theorem dX12_qGoesOn_246 : decode cX12_qGoesOn 246 = .ok (.istore_n 1, 1) := by decide +kernel
theorem dX12_qGoesOn_247 : decode cX12_qGoesOn 247 = .ok (.aload_n 0, 1) := by decide +kernel
theorem dX12_qGoesOn_248 : decode cX12_qGoesOn 248 = .ok (.iconst 3, 1) := by decide +kernel
theorem dX12_qGoesOn_249 : decode cX12_qGoesOn 249 = .ok (.invokevirtual 646, 3) := by decide +kernel
theorem dX12_qGoesOn_252 : decode cX12_qGoesOn 252 = .ok (.ifCond .ne 27, 3) := by decide +kernel
theorem dX12_qGoesOn_255 : decode cX12_qGoesOn 255 = .ok (.aload_n 0, 1) := by decide +kernel
theorem dX12_qGoesOn_256 : decode cX12_qGoesOn 256 = .ok (.iconst 4, 1) := by decide +kernel
theorem dX12_qGoesOn_257 : decode cX12_qGoesOn 257 = .ok (.invokevirtual 646, 3) := by decide +kernel
theorem dX12_qGoesOn_260 : decode cX12_qGoesOn 260 = .ok (.ifCond .ne 19, 3) := by decide +kernel
theorem dX12_qGoesOn_263 : decode cX12_qGoesOn 263 = .ok (.aload_n 0, 1) := by decide +kernel
theorem dX12_qGoesOn_264 : decode cX12_qGoesOn 264 = .ok (.iconst 1, 1) := by decide +kernel
theorem dX12_qGoesOn_265 : decode cX12_qGoesOn 265 = .ok (.invokevirtual 646, 3) := by decide +kernel
theorem dX12_qGoesOn_268 : decode cX12_qGoesOn 268 = .ok (.ifCond .ne 11, 3) := by decide +kernel
theorem dX12_qGoesOn_271 : decode cX12_qGoesOn 271 = .ok (.aload_n 0, 1) := by decide +kernel
theorem dX12_qGoesOn_272 : decode cX12_qGoesOn 272 = .ok (.iconst 2, 1) := by decide +kernel
theorem dX12_qGoesOn_273 : decode cX12_qGoesOn 273 = .ok (.invokevirtual 646, 3) := by decide +kernel
theorem dX12_qGoesOn_276 : decode cX12_qGoesOn 276 = .ok (.ifCond .eq 10, 3) := by decide +kernel
theorem dX12_qGoesOn_279 : decode cX12_qGoesOn 279 = .ok (.aload_n 0, 1) := by decide +kernel
theorem dX12_qGoesOn_280 : decode cX12_qGoesOn 280 = .ok (.invokevirtual 619, 3) := by decide +kernel
theorem dX12_qGoesOn_283 : decode cX12_qGoesOn 283 = .ok (.goto (-36), 3) := by decide +kernel
theorem dX12_qGoesOn_286 : decode cX12_qGoesOn 286 = .ok (.aload_n 0, 1) := by decide +kernel
theorem dX12_qGoesOn_287 : decode cX12_qGoesOn 287 = .ok (.getfield 245, 3) := by decide +kernel
theorem dX12_qGoesOn_290 : decode cX12_qGoesOn 290 = .ok (.aload_n 0, 1) := by decide +kernel
theorem dX12_qGoesOn_291 : decode cX12_qGoesOn 291 = .ok (.getfield 337, 3) := by decide +kernel
theorem dX12_qGoesOn_294 : decode cX12_qGoesOn 294 = .ok (.iload_n 1, 1) := by decide +kernel
theorem dX12_qGoesOn_295 : decode cX12_qGoesOn 295 = .ok (.iastore, 1) := by decide +kernel
theorem dX12_qGoesOn_296 : decode cX12_qGoesOn 296 = .ok (.aload_n 0, 1) := by decide +kernel
theorem dX12_qGoesOn_297 : decode cX12_qGoesOn 297 = .ok (.dup, 1) := by decide +kernel
theorem dX12_qGoesOn_298 : decode cX12_qGoesOn 298 = .ok (.getfield 337, 3) := by decide +kernel
theorem dX12_qGoesOn_301 : decode cX12_qGoesOn 301 = .ok (.iconst 1, 1) := by decide +kernel
theorem dX12_qGoesOn_302 : decode cX12_qGoesOn 302 = .ok (.iadd, 1) := by decide +kernel
theorem dX12_qGoesOn_303 : decode cX12_qGoesOn 303 = .ok (.putfield 337, 3) := by decide +kernel
theorem dX12_qGoesOn_306 : decode cX12_qGoesOn 306 = .ok (.iconst 1, 1) := by decide +kernel
theorem dX12_qGoesOn_307 : decode cX12_qGoesOn 307 = .ok (.ireturn, 1) := by decide +kernel
theorem dX12_qGoesOn_308 : decode cX12_qGoesOn 308 = .ok (.aload_n 0, 1) := by decide +kernel
theorem dX12_qGoesOn_309 : decode cX12_qGoesOn 309 = .ok (.invokevirtual 640, 3) := by decide +kernel
theorem dX12_qGoesOn_312 : decode cX12_qGoesOn 312 = .ok (.bipush 21, 2) := by decide +kernel
theorem dX12_qGoesOn_314 : decode cX12_qGoesOn 314 = .ok (.if_icmp .eq 12, 3) := by decide +kernel
theorem dX12_qGoesOn_317 : decode cX12_qGoesOn 317 = .ok (.aload_n 0, 1) := by decide +kernel
theorem dX12_qGoesOn_318 : decode cX12_qGoesOn 318 = .ok (.invokevirtual 640, 3) := by decide +kernel
theorem dX12_qGoesOn_321 : decode cX12_qGoesOn 321 = .ok (.bipush 22, 2) := by decide +kernel
theorem dX12_qGoesOn_323 : decode cX12_qGoesOn 323 = .ok (.if_icmp .ne 39, 3) := by decide +kernel
theorem dX12_qGoesOn_326 : decode cX12_qGoesOn 326 = .ok (.aload_n 0, 1) := by decide +kernel
theorem dX12_qGoesOn_327 : decode cX12_qGoesOn 327 = .ok (.bipush 44, 2) := by decide +kernel
theorem dX12_qGoesOn_329 : decode cX12_qGoesOn 329 = .ok (.invokevirtual 326, 3) := by decide +kernel
theorem dX12_qGoesOn_332 : decode cX12_qGoesOn 332 = .ok (.aload_n 0, 1) := by decide +kernel
theorem dX12_qGoesOn_333 : decode cX12_qGoesOn 333 = .ok (.getfield 257, 3) := by decide +kernel
theorem dX12_qGoesOn_336 : decode cX12_qGoesOn 336 = .ok (.ifCond .eq 5, 3) := by decide +kernel
theorem dX12_qGoesOn_339 : decode cX12_qGoesOn 339 = .ok (.iconst 0, 1) := by decide +kernel
theorem dX12_qGoesOn_340 : decode cX12_qGoesOn 340 = .ok (.ireturn, 1) := by decide +kernel
theorem dX12_qGoesOn_341 : decode cX12_qGoesOn 341 = .ok (.aload_n 0, 1) := by decide +kernel
theorem dX12_qGoesOn_342 : decode cX12_qGoesOn 342 = .ok (.invokevirtual 643, 3) := by decide +kernel
theorem dX12_qGoesOn_345 : decode cX12_qGoesOn 345 = .ok (.aload_n 0, 1) := by decide +kernel
theorem dX12_qGoesOn_346 : decode cX12_qGoesOn 346 = .ok (.getfield 245, 3) := by decide +kernel
theorem dX12_qGoesOn_349 : decode cX12_qGoesOn 349 = .ok (.aload_n 0, 1) := by decide +kernel
theorem dX12_qGoesOn_350 : decode cX12_qGoesOn 350 = .ok (.getfield 337, 3) := by decide +kernel
theorem dX12_qGoesOn_353 : decode cX12_qGoesOn 353 = .ok (.iconst 1, 1) := by decide +kernel
theorem dX12_qGoesOn_354 : decode cX12_qGoesOn 354 = .ok (.isub, 1) := by decide +kernel
theorem dX12_qGoesOn_355 : decode cX12_qGoesOn 355 = .ok (.dup2, 1) := by decide +kernel
theorem dX12_qGoesOn_356 : decode cX12_qGoesOn 356 = .ok (.iaload, 1) := by decide +kernel
theorem dX12_qGoesOn_357 : decode cX12_qGoesOn 357 = .ok (.iconst 2, 1) := by decide +kernel
theorem dX12_qGoesOn_358 : decode cX12_qGoesOn 358 = .ok (.iadd, 1) := by decide +kernel
theorem dX12_qGoesOn_359 : decode cX12_qGoesOn 359 = .ok (.iastore, 1) := by decide +kernel
theorem dX12_qGoesOn_360 : decode cX12_qGoesOn 360 = .ok (.iconst 1, 1) := by decide +kernel
theorem dX12_qGoesOn_361 : decode cX12_qGoesOn 361 = .ok (.ireturn, 1) := by decide +kernel
theorem dX12_qGoesOn_362 : decode cX12_qGoesOn 362 = .ok (.aload_n 0, 1) := by decide +kernel
theorem dX12_qGoesOn_363 : decode cX12_qGoesOn 363 = .ok (.invokevirtual 640, 3) := by decide +kernel
theorem dX12_qGoesOn_366 : decode cX12_qGoesOn 366 = .ok (.iconst (-1), 1) := by decide +kernel
theorem dX12_qGoesOn_367 : decode cX12_qGoesOn 367 = .ok (.if_icmp .eq 19, 3) := by decide +kernel
theorem dX12_qGoesOn_370 : decode cX12_qGoesOn 370 = .ok (.aload_n 0, 1) := by decide +kernel
theorem dX12_qGoesOn_371 : decode cX12_qGoesOn 371 = .ok (.getfield 257, 3) := by decide +kernel
theorem dX12_qGoesOn_374 : decode cX12_qGoesOn 374 = .ok (.ifCond .ne 12, 3) := by decide +kernel
theorem dX12_qGoesOn_377 : decode cX12_qGoesOn 377 = .ok (.aload_n 0, 1) := by decide +kernel
theorem dX12_qGoesOn_378 : decode cX12_qGoesOn 378 = .ok (.iconst 1, 1) := by decide +kernel
theorem dX12_qGoesOn_379 : decode cX12_qGoesOn 379 = .ok (.aload_n 0, 1) := by decide +kernel
theorem dX12_qGoesOn_380 : decode cX12_qGoesOn 380 = .ok (.getfield 263, 3) := by decide +kernel
theorem dX12_qGoesOn_383 : decode cX12_qGoesOn 383 = .ok (.invokevirtual 287, 3) := by decide +kernel
theorem dX12_qGoesOn_386 : decode cX12_qGoesOn 386 = .ok (.iconst 0, 1) := by decide +kernel
theorem dX12_qGoesOn_387 : decode cX12_qGoesOn 387 = .ok (.ireturn, 1) := by decide +kernel
theorem dX12_qSums_0 : decode cX12_qSums 0 = .ok (.aload_n 0, 1) := by decide +kernel
theorem dX12_qSums_1 : decode cX12_qSums 1 = .ok (.getfield 343, 3) := by decide +kernel
theorem dX12_qSums_4 : decode cX12_qSums 4 = .ok (.istore_n 1, 1) := by decide +kernel
theorem dX12_qSums_5 : decode cX12_qSums 5 = .ok (.aload_n 0, 1) := by decide +kernel
theorem dX12_qSums_6 : decode cX12_qSums 6 = .ok (.aload_n 0, 1) := by decide +kernel
theorem dX12_qSums_7 : decode cX12_qSums 7 = .ok (.getfield 337, 3) := by decide +kernel
theorem dX12_qSums_10 : decode cX12_qSums 10 = .ok (.putfield 343, 3) := by decide +kernel
theorem dX12_qSums_13 : decode cX12_qSums 13 = .ok (.iconst 1, 1) := by decide +kernel
theorem dX12_qSums_14 : decode cX12_qSums 14 = .ok (.istore_n 2, 1) := by decide +kernel
theorem dX12_qSums_15 : decode cX12_qSums 15 = .ok (.iload_n 2, 1) := by decide +kernel
theorem dX12_qSums_16 : decode cX12_qSums 16 = .ok (.ifCond .eq 37, 3) := by decide +kernel
theorem dX12_qSums_19 : decode cX12_qSums 19 = .ok (.aload_n 0, 1) := by decide +kernel
theorem dX12_qSums_20 : decode cX12_qSums 20 = .ok (.getfield 257, 3) := by decide +kernel
theorem dX12_qSums_23 : decode cX12_qSums 23 = .ok (.ifCond .ne 30, 3) := by decide +kernel
theorem dX12_qSums_26 : decode cX12_qSums 26 = .ok (.aload_n 0, 1) := by decide +kernel
theorem dX12_qSums_27 : decode cX12_qSums 27 = .ok (.invokevirtual 649, 3) := by decide +kernel
theorem dX12_qSums_30 : decode cX12_qSums 30 = .ok (.aload_n 0, 1) := by decide +kernel
theorem dX12_qSums_31 : decode cX12_qSums 31 = .ok (.getfield 257, 3) := by decide +kernel
theorem dX12_qSums_34 : decode cX12_qSums 34 = .ok (.ifCond .ne 14, 3) := by decide +kernel
theorem dX12_qSums_37 : decode cX12_qSums 37 = .ok (.aload_n 0, 1) := by decide +kernel
theorem dX12_qSums_38 : decode cX12_qSums 38 = .ok (.invokevirtual 652, 3) := by decide +kernel
theorem dX12_qSums_41 : decode cX12_qSums 41 = .ok (.ifCond .eq 7, 3) := by decide +kernel
theorem dX12_qSums_44 : decode cX12_qSums 44 = .ok (.iconst 1, 1) := by decide +kernel
theorem dX12_qSums_45 : decode cX12_qSums 45 = .ok (.goto 4, 3) := by decide +kernel
theorem dX12_qSums_48 : decode cX12_qSums 48 = .ok (.iconst 0, 1) := by decide +kernel
theorem dX12_qSums_49 : decode cX12_qSums 49 = .ok (.istore_n 2, 1) := by decide +kernel
theorem dX12_qSums_50 : decode cX12_qSums 50 = .ok (.goto (-35), 3) := by decide +kernel
theorem dX12_qSums_53 : decode cX12_qSums 53 = .ok (.aload_n 0, 1) := by decide +kernel
theorem dX12_qSums_54 : decode cX12_qSums 54 = .ok (.getfield 257, 3) := by decide +kernel
theorem dX12_qSums_57 : decode cX12_qSums 57 = .ok (.ifCond .ne 21, 3) := by decide +kernel
theorem dX12_qSums_60 : decode cX12_qSums 60 = .ok (.aload_n 0, 1) := by decide +kernel
theorem dX12_qSums_61 : decode cX12_qSums 61 = .ok (.getfield 337, 3) := by decide +kernel
theorem dX12_qSums_64 : decode cX12_qSums 64 = .ok (.aload_n 0, 1) := by decide +kernel
theorem dX12_qSums_65 : decode cX12_qSums 65 = .ok (.getfield 343, 3) := by decide +kernel
theorem dX12_qSums_68 : decode cX12_qSums 68 = .ok (.if_icmp .le 10, 3) := by decide +kernel
theorem dX12_qSums_71 : decode cX12_qSums 71 = .ok (.aload_n 0, 1) := by decide +kernel
theorem dX12_qSums_72 : decode cX12_qSums 72 = .ok (.invokevirtual 619, 3) := by decide +kernel
theorem dX12_qSums_75 : decode cX12_qSums 75 = .ok (.goto (-22), 3) := by decide +kernel
theorem dX12_qSums_78 : decode cX12_qSums 78 = .ok (.aload_n 0, 1) := by decide +kernel
theorem dX12_qSums_79 : decode cX12_qSums 79 = .ok (.iload_n 1, 1) := by decide +kernel
theorem dX12_qSums_80 : decode cX12_qSums 80 = .ok (.putfield 343, 3) := by decide +kernel
theorem dX12_qSums_83 : decode cX12_qSums 83 = .ok (.return_, 1) := by decide +kernel
theorem dX12_qFact_0 : decode cX12_qFact 0 = .ok (.aload_n 0, 1) := by decide +kernel
theorem dX12_qFact_1 : decode cX12_qFact 1 = .ok (.aload_n 0, 1) := by decide +kernel
theorem dX12_qFact_2 : decode cX12_qFact 2 = .ok (.getfield 197, 3) := by decide +kernel
theorem dX12_qFact_5 : decode cX12_qFact 5 = .ok (.invokevirtual 284, 3) := by decide +kernel
theorem dX12_qFact_8 : decode cX12_qFact 8 = .ok (.ifCond .eq 10, 3) := by decide +kernel
theorem dX12_qFact_11 : decode cX12_qFact 11 = .ok (.aload_n 0, 1) := by decide +kernel
theorem dX12_qFact_12 : decode cX12_qFact 12 = .ok (.bipush 13, 2) := by decide +kernel
theorem dX12_qFact_14 : decode cX12_qFact 14 = .ok (.invokevirtual 613, 3) := by decide +kernel
theorem dX12_qFact_17 : decode cX12_qFact 17 = .ok (.return_, 1) := by decide +kernel
theorem dX12_qFact_18 : decode cX12_qFact 18 = .ok (.aload_n 0, 1) := by decide +kernel
theorem dX12_qFact_19 : decode cX12_qFact 19 = .ok (.invokevirtual 349, 3) := by decide +kernel
theorem dX12_qFact_22 : decode cX12_qFact 22 = .ok (.aload_n 0, 1) := by decide +kernel
theorem dX12_qFact_23 : decode cX12_qFact 23 = .ok (.getfield 257, 3) := by decide +kernel
theorem dX12_qFact_26 : decode cX12_qFact 26 = .ok (.ifCond .eq 4, 3) := by decide +kernel
theorem dX12_qFact_29 : decode cX12_qFact 29 = .ok (.return_, 1) := by decide +kernel
theorem dX12_qFact_30 : decode cX12_qFact 30 = .ok (.aload_n 0, 1) := by decide +kernel
theorem dX12_qFact_31 : decode cX12_qFact 31 = .ok (.invokevirtual 269, 3) := by decide +kernel
theorem dX12_qFact_34 : decode cX12_qFact 34 = .ok (.istore_n 1, 1) := by decide +kernel
theorem dX12_qFact_35 : decode cX12_qFact 35 = .ok (.iload_n 1, 1) := by decide +kernel
theorem dX12_qFact_36 : decode cX12_qFact 36 = .ok (.bipush 60, 2) := by decide +kernel
theorem dX12_qFact_38 : decode cX12_qFact 38 = .ok (.if_icmp .eq 25, 3) := by decide +kernel
theorem dX12_qFact_41 : decode cX12_qFact 41 = .ok (.iload_n 1, 1) := by decide +kernel
theorem dX12_qFact_42 : decode cX12_qFact 42 = .ok (.bipush 62, 2) := by decide +kernel
theorem dX12_qFact_44 : decode cX12_qFact 44 = .ok (.if_icmp .eq 19, 3) := by decide +kernel
theorem dX12_qFact_47 : decode cX12_qFact 47 = .ok (.iload_n 1, 1) := by decide +kernel
theorem dX12_qFact_48 : decode cX12_qFact 48 = .ok (.bipush 61, 2) := by decide +kernel
theorem dX12_qFact_50 : decode cX12_qFact 50 = .ok (.if_icmp .eq 13, 3) := by decide +kernel
theorem dX12_qFact_53 : decode cX12_qFact 53 = .ok (.aload_n 0, 1) := by decide +kernel
theorem dX12_qFact_54 : decode cX12_qFact 54 = .ok (.iconst 1, 1) := by decide +kernel
theorem dX12_qFact_55 : decode cX12_qFact 55 = .ok (.aload_n 0, 1) := by decide +kernel
theorem dX12_qFact_56 : decode cX12_qFact 56 = .ok (.getfield 263, 3) := by decide +kernel
theorem dX12_qFact_59 : decode cX12_qFact 59 = .ok (.invokevirtual 287, 3) := by decide +kernel
theorem dX12_qFact_62 : decode cX12_qFact 62 = .ok (.return_, 1) := by decide +kernel
theorem dX12_qFact_63 : decode cX12_qFact 63 = .ok (.aload_n 0, 1) := by decide +kernel
theorem dX12_qFact_64 : decode cX12_qFact 64 = .ok (.dup, 1) := by decide +kernel
theorem dX12_qFact_65 : decode cX12_qFact 65 = .ok (.getfield 263, 3) := by decide +kernel
theorem dX12_qFact_68 : decode cX12_qFact 68 = .ok (.iconst 1, 1) := by decide +kernel
theorem dX12_qFact_69 : decode cX12_qFact 69 = .ok (.iadd, 1) := by decide +kernel
theorem dX12_qFact_70 : decode cX12_qFact 70 = .ok (.putfield 263, 3) := by decide +kernel
theorem dX12_qFact_73 : decode cX12_qFact 73 = .ok (.aload_n 0, 1) := by decide +kernel
theorem dX12_qFact_74 : decode cX12_qFact 74 = .ok (.invokevirtual 349, 3) := by decide +kernel
theorem dX12_qFact_77 : decode cX12_qFact 77 = .ok (.aload_n 0, 1) := by decide +kernel
theorem dX12_qFact_78 : decode cX12_qFact 78 = .ok (.iload_n 1, 1) := by decide +kernel
theorem dX12_qFact_79 : decode cX12_qFact 79 = .ok (.bipush 60, 2) := by decide +kernel
theorem dX12_qFact_81 : decode cX12_qFact 81 = .ok (.if_icmp .ne 8, 3) := by decide +kernel
theorem dX12_qFact_84 : decode cX12_qFact 84 = .ok (.bipush 7, 2) := by decide +kernel
theorem dX12_qFact_86 : decode cX12_qFact 86 = .ok (.goto 16, 3) := by decide +kernel
theorem dX12_qFact_89 : decode cX12_qFact 89 = .ok (.iload_n 1, 1) := by decide +kernel
theorem dX12_qFact_90 : decode cX12_qFact 90 = .ok (.bipush 62, 2) := by decide +kernel
theorem dX12_qFact_92 : decode cX12_qFact 92 = .ok (.if_icmp .ne 8, 3) := by decide +kernel
theorem dX12_qFact_95 : decode cX12_qFact 95 = .ok (.bipush 8, 2) := by decide +kernel
theorem dX12_qFact_97 : decode cX12_qFact 97 = .ok (.goto 5, 3) := by decide +kernel
theorem dX12_qFact_100 : decode cX12_qFact 100 = .ok (.bipush 9, 2) := by decide +kernel
theorem dX12_qFact_102 : decode cX12_qFact 102 = .ok (.invokevirtual 613, 3) := by decide +kernel
theorem dX12_qFact_105 : decode cX12_qFact 105 = .ok (.return_, 1) := by decide +kernel
theorem dX12_qDropsNots_0 : decode cX12_qDropsNots 0 = .ok (.aload_n 0, 1) := by decide +kernel
theorem dX12_qDropsNots_1 : decode cX12_qDropsNots 1 = .ok (.getfield 257, 3) := by decide +kernel
theorem dX12_qDropsNots_4 : decode cX12_qDropsNots 4 = .ok (.ifCond .ne 29, 3) := by decide +kernel
theorem dX12_qDropsNots_7 : decode cX12_qDropsNots 7 = .ok (.aload_n 0, 1) := by decide +kernel
theorem dX12_qDropsNots_8 : decode cX12_qDropsNots 8 = .ok (.bipush 12, 2) := by decide +kernel
theorem dX12_qDropsNots_10 : decode cX12_qDropsNots 10 = .ok (.invokevirtual 646, 3) := by decide +kernel
theorem dX12_qDropsNots_13 : decode cX12_qDropsNots 13 = .ok (.ifCond .eq 20, 3) := by decide +kernel
theorem dX12_qDropsNots_16 : decode cX12_qDropsNots 16 = .ok (.aload_n 0, 1) := by decide +kernel
theorem dX12_qDropsNots_17 : decode cX12_qDropsNots 17 = .ok (.dup, 1) := by decide +kernel
theorem dX12_qDropsNots_18 : decode cX12_qDropsNots 18 = .ok (.getfield 340, 3) := by decide +kernel
theorem dX12_qDropsNots_21 : decode cX12_qDropsNots 21 = .ok (.iconst 1, 1) := by decide +kernel
theorem dX12_qDropsNots_22 : decode cX12_qDropsNots 22 = .ok (.isub, 1) := by decide +kernel
theorem dX12_qDropsNots_23 : decode cX12_qDropsNots 23 = .ok (.putfield 340, 3) := by decide +kernel
theorem dX12_qDropsNots_26 : decode cX12_qDropsNots 26 = .ok (.aload_n 0, 1) := by decide +kernel
theorem dX12_qDropsNots_27 : decode cX12_qDropsNots 27 = .ok (.invokevirtual 619, 3) := by decide +kernel
theorem dX12_qDropsNots_30 : decode cX12_qDropsNots 30 = .ok (.goto (-30), 3) := by decide +kernel
theorem dX12_qDropsNots_33 : decode cX12_qDropsNots 33 = .ok (.return_, 1) := by decide +kernel
theorem dX12_qHasSquare_0 : decode cX12_qHasSquare 0 = .ok (.iconst 0, 1) := by decide +kernel
theorem dX12_qHasSquare_1 : decode cX12_qHasSquare 1 = .ok (.istore_n 1, 1) := by decide +kernel
theorem dX12_qHasSquare_2 : decode cX12_qHasSquare 2 = .ok (.iload_n 1, 1) := by decide +kernel
theorem dX12_qHasSquare_3 : decode cX12_qHasSquare 3 = .ok (.aload_n 0, 1) := by decide +kernel
theorem dX12_qHasSquare_4 : decode cX12_qHasSquare 4 = .ok (.getfield 337, 3) := by decide +kernel
theorem dX12_qHasSquare_7 : decode cX12_qHasSquare 7 = .ok (.if_icmp .ge 22, 3) := by decide +kernel
theorem dX12_qHasSquare_10 : decode cX12_qHasSquare 10 = .ok (.aload_n 0, 1) := by decide +kernel
theorem dX12_qHasSquare_11 : decode cX12_qHasSquare 11 = .ok (.getfield 245, 3) := by decide +kernel
theorem dX12_qHasSquare_14 : decode cX12_qHasSquare 14 = .ok (.iload_n 1, 1) := by decide +kernel
theorem dX12_qHasSquare_15 : decode cX12_qHasSquare 15 = .ok (.iaload, 1) := by decide +kernel
theorem dX12_qHasSquare_16 : decode cX12_qHasSquare 16 = .ok (.bipush 25, 2) := by decide +kernel
theorem dX12_qHasSquare_18 : decode cX12_qHasSquare 18 = .ok (.if_icmp .ne 5, 3) := by decide +kernel
theorem dX12_qHasSquare_21 : decode cX12_qHasSquare 21 = .ok (.iconst 1, 1) := by decide +kernel
theorem dX12_qHasSquare_22 : decode cX12_qHasSquare 22 = .ok (.ireturn, 1) := by decide +kernel
theorem dX12_qHasSquare_23 : decode cX12_qHasSquare 23 = .ok (.iinc 1 1, 3) := by decide +kernel
theorem dX12_qHasSquare_26 : decode cX12_qHasSquare 26 = .ok (.goto (-24), 3) := by decide +kernel
theorem dX12_qHasSquare_29 : decode cX12_qHasSquare 29 = .ok (.iconst 0, 1) := by decide +kernel
theorem dX12_qHasSquare_30 : decode cX12_qHasSquare 30 = .ok (.ireturn, 1) := by decide +kernel
theorem dX12_qGoesOnTest_0 : decode cX12_qGoesOnTest 0 = .ok (.aload_n 0, 1) := by decide +kernel
theorem dX12_qGoesOnTest_1 : decode cX12_qGoesOnTest 1 = .ok (.getfield 257, 3) := by decide +kernel
theorem dX12_qGoesOnTest_4 : decode cX12_qGoesOnTest 4 = .ok (.ifCond .ne 72, 3) := by decide +kernel
theorem dX12_qGoesOnTest_7 : decode cX12_qGoesOnTest 7 = .ok (.aload_n 0, 1) := by decide +kernel
theorem dX12_qGoesOnTest_8 : decode cX12_qGoesOnTest 8 = .ok (.invokevirtual 269, 3) := by decide +kernel
theorem dX12_qGoesOnTest_11 : decode cX12_qGoesOnTest 11 = .ok (.bipush 93, 2) := by decide +kernel
theorem dX12_qGoesOnTest_13 : decode cX12_qGoesOnTest 13 = .ok (.if_icmp .ne 63, 3) := by decide +kernel
theorem dX12_qGoesOnTest_16 : decode cX12_qGoesOnTest 16 = .ok (.aload_n 0, 1) := by decide +kernel
theorem dX12_qGoesOnTest_17 : decode cX12_qGoesOnTest 17 = .ok (.invokevirtual 664, 3) := by decide +kernel
theorem dX12_qGoesOnTest_20 : decode cX12_qGoesOnTest 20 = .ok (.ifCond .eq 56, 3) := by decide +kernel
theorem dX12_qGoesOnTest_23 : decode cX12_qGoesOnTest 23 = .ok (.aload_n 0, 1) := by decide +kernel
theorem dX12_qGoesOnTest_24 : decode cX12_qGoesOnTest 24 = .ok (.dup, 1) := by decide +kernel
theorem dX12_qGoesOnTest_25 : decode cX12_qGoesOnTest 25 = .ok (.getfield 263, 3) := by decide +kernel
theorem dX12_qGoesOnTest_28 : decode cX12_qGoesOnTest 28 = .ok (.iconst 1, 1) := by decide +kernel
theorem dX12_qGoesOnTest_29 : decode cX12_qGoesOnTest 29 = .ok (.iadd, 1) := by decide +kernel
theorem dX12_qGoesOnTest_30 : decode cX12_qGoesOnTest 30 = .ok (.putfield 263, 3) := by decide +kernel
theorem dX12_qGoesOnTest_33 : decode cX12_qGoesOnTest 33 = .ok (.aload_n 0, 1) := by decide +kernel
theorem dX12_qGoesOnTest_34 : decode cX12_qGoesOnTest 34 = .ok (.bipush 25, 2) := by decide +kernel
theorem dX12_qGoesOnTest_36 : decode cX12_qGoesOnTest 36 = .ok (.invokevirtual 646, 3) := by decide +kernel
theorem dX12_qGoesOnTest_39 : decode cX12_qGoesOnTest 39 = .ok (.ifCond .ne 10, 3) := by decide +kernel
theorem dX12_qGoesOnTest_42 : decode cX12_qGoesOnTest 42 = .ok (.aload_n 0, 1) := by decide +kernel
theorem dX12_qGoesOnTest_43 : decode cX12_qGoesOnTest 43 = .ok (.invokevirtual 619, 3) := by decide +kernel
theorem dX12_qGoesOnTest_46 : decode cX12_qGoesOnTest 46 = .ok (.goto (-13), 3) := by decide +kernel
theorem dX12_qGoesOnTest_49 : decode cX12_qGoesOnTest 49 = .ok (.aload_n 0, 1) := by decide +kernel
theorem dX12_qGoesOnTest_50 : decode cX12_qGoesOnTest 50 = .ok (.dup, 1) := by decide +kernel
theorem dX12_qGoesOnTest_51 : decode cX12_qGoesOnTest 51 = .ok (.getfield 337, 3) := by decide +kernel
theorem dX12_qGoesOnTest_54 : decode cX12_qGoesOnTest 54 = .ok (.iconst 1, 1) := by decide +kernel
theorem dX12_qGoesOnTest_55 : decode cX12_qGoesOnTest 55 = .ok (.isub, 1) := by decide +kernel
theorem dX12_qGoesOnTest_56 : decode cX12_qGoesOnTest 56 = .ok (.putfield 337, 3) := by decide +kernel
theorem dX12_qGoesOnTest_59 : decode cX12_qGoesOnTest 59 = .ok (.aload_n 0, 1) := by decide +kernel
theorem dX12_qGoesOnTest_60 : decode cX12_qGoesOnTest 60 = .ok (.dup, 1) := by decide +kernel
theorem dX12_qGoesOnTest_61 : decode cX12_qGoesOnTest 61 = .ok (.getfield 340, 3) := by decide +kernel
theorem dX12_qGoesOnTest_64 : decode cX12_qGoesOnTest 64 = .ok (.iconst 1, 1) := by decide +kernel
theorem dX12_qGoesOnTest_65 : decode cX12_qGoesOnTest 65 = .ok (.isub, 1) := by decide +kernel
theorem dX12_qGoesOnTest_66 : decode cX12_qGoesOnTest 66 = .ok (.putfield 340, 3) := by decide +kernel
theorem dX12_qGoesOnTest_69 : decode cX12_qGoesOnTest 69 = .ok (.aload_n 0, 1) := by decide +kernel
theorem dX12_qGoesOnTest_70 : decode cX12_qGoesOnTest 70 = .ok (.invokevirtual 658, 3) := by decide +kernel
theorem dX12_qGoesOnTest_73 : decode cX12_qGoesOnTest 73 = .ok (.goto (-73), 3) := by decide +kernel
theorem dX12_qGoesOnTest_76 : decode cX12_qGoesOnTest 76 = .ok (.aload_n 0, 1) := by decide +kernel
theorem dX12_qGoesOnTest_77 : decode cX12_qGoesOnTest 77 = .ok (.aload_n 0, 1) := by decide +kernel
theorem dX12_qGoesOnTest_78 : decode cX12_qGoesOnTest 78 = .ok (.getfield 191, 3) := by decide +kernel
theorem dX12_qGoesOnTest_81 : decode cX12_qGoesOnTest 81 = .ok (.invokevirtual 284, 3) := by decide +kernel
theorem dX12_qGoesOnTest_84 : decode cX12_qGoesOnTest 84 = .ok (.ifCond .eq 42, 3) := by decide +kernel
theorem dX12_qGoesOnTest_87 : decode cX12_qGoesOnTest 87 = .ok (.aload_n 0, 1) := by decide +kernel
theorem dX12_qGoesOnTest_88 : decode cX12_qGoesOnTest 88 = .ok (.bipush 10, 2) := by decide +kernel
theorem dX12_qGoesOnTest_90 : decode cX12_qGoesOnTest 90 = .ok (.invokevirtual 646, 3) := by decide +kernel
theorem dX12_qGoesOnTest_93 : decode cX12_qGoesOnTest 93 = .ok (.ifCond .eq 10, 3) := by decide +kernel
theorem dX12_qGoesOnTest_96 : decode cX12_qGoesOnTest 96 = .ok (.aload_n 0, 1) := by decide +kernel
theorem dX12_qGoesOnTest_97 : decode cX12_qGoesOnTest 97 = .ok (.invokevirtual 619, 3) := by decide +kernel
theorem dX12_qGoesOnTest_100 : decode cX12_qGoesOnTest 100 = .ok (.goto (-13), 3) := by decide +kernel
theorem dX12_qGoesOnTest_103 : decode cX12_qGoesOnTest 103 = .ok (.aload_n 0, 1) := by decide +kernel
theorem dX12_qGoesOnTest_104 : decode cX12_qGoesOnTest 104 = .ok (.getfield 245, 3) := by decide +kernel
theorem dX12_qGoesOnTest_107 : decode cX12_qGoesOnTest 107 = .ok (.aload_n 0, 1) := by decide +kernel
theorem dX12_qGoesOnTest_108 : decode cX12_qGoesOnTest 108 = .ok (.getfield 337, 3) := by decide +kernel
theorem dX12_qGoesOnTest_111 : decode cX12_qGoesOnTest 111 = .ok (.bipush 10, 2) := by decide +kernel
theorem dX12_qGoesOnTest_113 : decode cX12_qGoesOnTest 113 = .ok (.iastore, 1) := by decide +kernel
theorem dX12_qGoesOnTest_114 : decode cX12_qGoesOnTest 114 = .ok (.aload_n 0, 1) := by decide +kernel
theorem dX12_qGoesOnTest_115 : decode cX12_qGoesOnTest 115 = .ok (.dup, 1) := by decide +kernel
theorem dX12_qGoesOnTest_116 : decode cX12_qGoesOnTest 116 = .ok (.getfield 337, 3) := by decide +kernel
theorem dX12_qGoesOnTest_119 : decode cX12_qGoesOnTest 119 = .ok (.iconst 1, 1) := by decide +kernel
theorem dX12_qGoesOnTest_120 : decode cX12_qGoesOnTest 120 = .ok (.iadd, 1) := by decide +kernel
theorem dX12_qGoesOnTest_121 : decode cX12_qGoesOnTest 121 = .ok (.putfield 337, 3) := by decide +kernel
theorem dX12_qGoesOnTest_124 : decode cX12_qGoesOnTest 124 = .ok (.iconst 1, 1) := by decide +kernel
theorem dX12_qGoesOnTest_125 : decode cX12_qGoesOnTest 125 = .ok (.ireturn, 1) := by decide +kernel
theorem dX12_qGoesOnTest_126 : decode cX12_qGoesOnTest 126 = .ok (.aload_n 0, 1) := by decide +kernel
theorem dX12_qGoesOnTest_127 : decode cX12_qGoesOnTest 127 = .ok (.aload_n 0, 1) := by decide +kernel
theorem dX12_qGoesOnTest_128 : decode cX12_qGoesOnTest 128 = .ok (.getfield 194, 3) := by decide +kernel
theorem dX12_qGoesOnTest_131 : decode cX12_qGoesOnTest 131 = .ok (.invokevirtual 284, 3) := by decide +kernel
theorem dX12_qGoesOnTest_134 : decode cX12_qGoesOnTest 134 = .ok (.ifCond .eq 51, 3) := by decide +kernel
theorem dX12_qGoesOnTest_137 : decode cX12_qGoesOnTest 137 = .ok (.aload_n 0, 1) := by decide +kernel
theorem dX12_qGoesOnTest_138 : decode cX12_qGoesOnTest 138 = .ok (.bipush 10, 2) := by decide +kernel
theorem dX12_qGoesOnTest_140 : decode cX12_qGoesOnTest 140 = .ok (.invokevirtual 646, 3) := by decide +kernel
theorem dX12_qGoesOnTest_143 : decode cX12_qGoesOnTest 143 = .ok (.ifCond .ne 12, 3) := by decide +kernel
theorem dX12_qGoesOnTest_146 : decode cX12_qGoesOnTest 146 = .ok (.aload_n 0, 1) := by decide +kernel
theorem dX12_qGoesOnTest_147 : decode cX12_qGoesOnTest 147 = .ok (.bipush 11, 2) := by decide +kernel
theorem dX12_qGoesOnTest_149 : decode cX12_qGoesOnTest 149 = .ok (.invokevirtual 646, 3) := by decide +kernel
theorem dX12_qGoesOnTest_152 : decode cX12_qGoesOnTest 152 = .ok (.ifCond .eq 10, 3) := by decide +kernel
theorem dX12_qGoesOnTest_155 : decode cX12_qGoesOnTest 155 = .ok (.aload_n 0, 1) := by decide +kernel
theorem dX12_qGoesOnTest_156 : decode cX12_qGoesOnTest 156 = .ok (.invokevirtual 619, 3) := by decide +kernel
theorem dX12_qGoesOnTest_159 : decode cX12_qGoesOnTest 159 = .ok (.goto (-22), 3) := by decide +kernel
theorem dX12_qGoesOnTest_162 : decode cX12_qGoesOnTest 162 = .ok (.aload_n 0, 1) := by decide +kernel
theorem dX12_qGoesOnTest_163 : decode cX12_qGoesOnTest 163 = .ok (.getfield 245, 3) := by decide +kernel
theorem dX12_qGoesOnTest_166 : decode cX12_qGoesOnTest 166 = .ok (.aload_n 0, 1) := by decide +kernel
theorem dX12_qGoesOnTest_167 : decode cX12_qGoesOnTest 167 = .ok (.getfield 337, 3) := by decide +kernel
theorem dX12_qGoesOnTest_170 : decode cX12_qGoesOnTest 170 = .ok (.bipush 11, 2) := by decide +kernel
theorem dX12_qGoesOnTest_172 : decode cX12_qGoesOnTest 172 = .ok (.iastore, 1) := by decide +kernel
theorem dX12_qGoesOnTest_173 : decode cX12_qGoesOnTest 173 = .ok (.aload_n 0, 1) := by decide +kernel
theorem dX12_qGoesOnTest_174 : decode cX12_qGoesOnTest 174 = .ok (.dup, 1) := by decide +kernel
theorem dX12_qGoesOnTest_175 : decode cX12_qGoesOnTest 175 = .ok (.getfield 337, 3) := by decide +kernel
theorem dX12_qGoesOnTest_178 : decode cX12_qGoesOnTest 178 = .ok (.iconst 1, 1) := by decide +kernel
theorem dX12_qGoesOnTest_179 : decode cX12_qGoesOnTest 179 = .ok (.iadd, 1) := by decide +kernel
theorem dX12_qGoesOnTest_180 : decode cX12_qGoesOnTest 180 = .ok (.putfield 337, 3) := by decide +kernel
theorem dX12_qGoesOnTest_183 : decode cX12_qGoesOnTest 183 = .ok (.iconst 1, 1) := by decide +kernel
theorem dX12_qGoesOnTest_184 : decode cX12_qGoesOnTest 184 = .ok (.ireturn, 1) := by decide +kernel
theorem dX12_qGoesOnTest_185 : decode cX12_qGoesOnTest 185 = .ok (.aload_n 0, 1) := by decide +kernel
theorem dX12_qGoesOnTest_186 : decode cX12_qGoesOnTest 186 = .ok (.getfield 257, 3) := by decide +kernel
theorem dX12_qGoesOnTest_189 : decode cX12_qGoesOnTest 189 = .ok (.ifCond .ne 19, 3) := by decide +kernel
theorem dX12_qGoesOnTest_192 : decode cX12_qGoesOnTest 192 = .ok (.aload_n 0, 1) := by decide +kernel
theorem dX12_qGoesOnTest_193 : decode cX12_qGoesOnTest 193 = .ok (.invokevirtual 664, 3) := by decide +kernel
theorem dX12_qGoesOnTest_196 : decode cX12_qGoesOnTest 196 = .ok (.ifCond .eq 12, 3) := by decide +kernel
theorem dX12_qGoesOnTest_199 : decode cX12_qGoesOnTest 199 = .ok (.aload_n 0, 1) := by decide +kernel
theorem dX12_qGoesOnTest_200 : decode cX12_qGoesOnTest 200 = .ok (.iconst 1, 1) := by decide +kernel
theorem dX12_qGoesOnTest_201 : decode cX12_qGoesOnTest 201 = .ok (.aload_n 0, 1) := by decide +kernel
theorem dX12_qGoesOnTest_202 : decode cX12_qGoesOnTest 202 = .ok (.getfield 263, 3) := by decide +kernel
theorem dX12_qGoesOnTest_205 : decode cX12_qGoesOnTest 205 = .ok (.invokevirtual 287, 3) := by decide +kernel
theorem dX12_qGoesOnTest_208 : decode cX12_qGoesOnTest 208 = .ok (.iconst 0, 1) := by decide +kernel
theorem dX12_qGoesOnTest_209 : decode cX12_qGoesOnTest 209 = .ok (.ireturn, 1) := by decide +kernel
theorem dX12_qTest_0 : decode cX12_qTest 0 = .ok (.iconst 1, 1) := by decide +kernel
theorem dX12_qTest_1 : decode cX12_qTest 1 = .ok (.istore_n 1, 1) := by decide +kernel
theorem dX12_qTest_2 : decode cX12_qTest 2 = .ok (.iload_n 1, 1) := by decide +kernel
theorem dX12_qTest_3 : decode cX12_qTest 3 = .ok (.ifCond .eq 107, 3) := by decide +kernel
theorem dX12_qTest_6 : decode cX12_qTest 6 = .ok (.aload_n 0, 1) := by decide +kernel
theorem dX12_qTest_7 : decode cX12_qTest 7 = .ok (.getfield 257, 3) := by decide +kernel
theorem dX12_qTest_10 : decode cX12_qTest 10 = .ok (.ifCond .ne 100, 3) := by decide +kernel
theorem dX12_qTest_13 : decode cX12_qTest 13 = .ok (.aload_n 0, 1) := by decide +kernel
theorem dX12_qTest_14 : decode cX12_qTest 14 = .ok (.invokevirtual 269, 3) := by decide +kernel
theorem dX12_qTest_17 : decode cX12_qTest 17 = .ok (.istore_n 2, 1) := by decide +kernel
theorem dX12_qTest_18 : decode cX12_qTest 18 = .ok (.iload_n 2, 1) := by decide +kernel
theorem dX12_qTest_19 : decode cX12_qTest 19 = .ok (.bipush 91, 2) := by decide +kernel
theorem dX12_qTest_21 : decode cX12_qTest 21 = .ok (.if_icmp .ne 26, 3) := by decide +kernel
theorem dX12_qTest_24 : decode cX12_qTest 24 = .ok (.aload_n 0, 1) := by decide +kernel
theorem dX12_qTest_25 : decode cX12_qTest 25 = .ok (.bipush 25, 2) := by decide +kernel
theorem dX12_qTest_27 : decode cX12_qTest 27 = .ok (.aload_n 0, 1) := by decide +kernel
theorem dX12_qTest_28 : decode cX12_qTest 28 = .ok (.getfield 263, 3) := by decide +kernel
theorem dX12_qTest_31 : decode cX12_qTest 31 = .ok (.invokevirtual 631, 3) := by decide +kernel
theorem dX12_qTest_34 : decode cX12_qTest 34 = .ok (.aload_n 0, 1) := by decide +kernel
theorem dX12_qTest_35 : decode cX12_qTest 35 = .ok (.dup, 1) := by decide +kernel
theorem dX12_qTest_36 : decode cX12_qTest 36 = .ok (.getfield 263, 3) := by decide +kernel
theorem dX12_qTest_39 : decode cX12_qTest 39 = .ok (.iconst 1, 1) := by decide +kernel
theorem dX12_qTest_40 : decode cX12_qTest 40 = .ok (.iadd, 1) := by decide +kernel
theorem dX12_qTest_41 : decode cX12_qTest 41 = .ok (.putfield 263, 3) := by decide +kernel
theorem dX12_qTest_44 : decode cX12_qTest 44 = .ok (.goto (-42), 3) := by decide +kernel
theorem dX12_qTest_47 : decode cX12_qTest 47 = .ok (.aload_n 0, 1) := by decide +kernel
theorem dX12_qTest_48 : decode cX12_qTest 48 = .ok (.aload_n 0, 1) := by decide +kernel
theorem dX12_qTest_49 : decode cX12_qTest 49 = .ok (.getfield 188, 3) := by decide +kernel
theorem dX12_qTest_52 : decode cX12_qTest 52 = .ok (.invokevirtual 280, 3) := by decide +kernel
theorem dX12_qTest_55 : decode cX12_qTest 55 = .ok (.ifCond .eq 24, 3) := by decide +kernel
theorem dX12_qTest_58 : decode cX12_qTest 58 = .ok (.aload_n 0, 1) := by decide +kernel
theorem dX12_qTest_59 : decode cX12_qTest 59 = .ok (.bipush 12, 2) := by decide +kernel
theorem dX12_qTest_61 : decode cX12_qTest 61 = .ok (.aload_n 0, 1) := by decide +kernel
theorem dX12_qTest_62 : decode cX12_qTest 62 = .ok (.getfield 263, 3) := by decide +kernel
theorem dX12_qTest_65 : decode cX12_qTest 65 = .ok (.invokevirtual 631, 3) := by decide +kernel
theorem dX12_qTest_68 : decode cX12_qTest 68 = .ok (.aload_n 0, 1) := by decide +kernel
theorem dX12_qTest_69 : decode cX12_qTest 69 = .ok (.aload_n 0, 1) := by decide +kernel
theorem dX12_qTest_70 : decode cX12_qTest 70 = .ok (.getfield 188, 3) := by decide +kernel
theorem dX12_qTest_73 : decode cX12_qTest 73 = .ok (.invokevirtual 318, 3) := by decide +kernel
theorem dX12_qTest_76 : decode cX12_qTest 76 = .ok (.goto (-74), 3) := by decide +kernel
theorem dX12_qTest_79 : decode cX12_qTest 79 = .ok (.aload_n 0, 1) := by decide +kernel
theorem dX12_qTest_80 : decode cX12_qTest 80 = .ok (.invokevirtual 655, 3) := by decide +kernel
theorem dX12_qTest_83 : decode cX12_qTest 83 = .ok (.aload_n 0, 1) := by decide +kernel
theorem dX12_qTest_84 : decode cX12_qTest 84 = .ok (.invokevirtual 658, 3) := by decide +kernel
theorem dX12_qTest_87 : decode cX12_qTest 87 = .ok (.aload_n 0, 1) := by decide +kernel
theorem dX12_qTest_88 : decode cX12_qTest 88 = .ok (.getfield 257, 3) := by decide +kernel
theorem dX12_qTest_91 : decode cX12_qTest 91 = .ok (.ifCond .ne 14, 3) := by decide +kernel
theorem dX12_qTest_94 : decode cX12_qTest 94 = .ok (.aload_n 0, 1) := by decide +kernel
theorem dX12_qTest_95 : decode cX12_qTest 95 = .ok (.invokevirtual 661, 3) := by decide +kernel
theorem dX12_qTest_98 : decode cX12_qTest 98 = .ok (.ifCond .eq 7, 3) := by decide +kernel
theorem dX12_qTest_101 : decode cX12_qTest 101 = .ok (.iconst 1, 1) := by decide +kernel
theorem dX12_qTest_102 : decode cX12_qTest 102 = .ok (.goto 4, 3) := by decide +kernel
theorem dX12_qTest_105 : decode cX12_qTest 105 = .ok (.iconst 0, 1) := by decide +kernel
theorem dX12_qTest_106 : decode cX12_qTest 106 = .ok (.istore_n 1, 1) := by decide +kernel
theorem dX12_qTest_107 : decode cX12_qTest 107 = .ok (.goto (-105), 3) := by decide +kernel
theorem dX12_qTest_110 : decode cX12_qTest 110 = .ok (.aload_n 0, 1) := by decide +kernel
theorem dX12_qTest_111 : decode cX12_qTest 111 = .ok (.getfield 257, 3) := by decide +kernel
theorem dX12_qTest_114 : decode cX12_qTest 114 = .ok (.ifCond .ne 17, 3) := by decide +kernel
theorem dX12_qTest_117 : decode cX12_qTest 117 = .ok (.aload_n 0, 1) := by decide +kernel
theorem dX12_qTest_118 : decode cX12_qTest 118 = .ok (.getfield 337, 3) := by decide +kernel
theorem dX12_qTest_121 : decode cX12_qTest 121 = .ok (.ifCond .le 10, 3) := by decide +kernel
theorem dX12_qTest_124 : decode cX12_qTest 124 = .ok (.aload_n 0, 1) := by decide +kernel
theorem dX12_qTest_125 : decode cX12_qTest 125 = .ok (.invokevirtual 619, 3) := by decide +kernel
theorem dX12_qTest_128 : decode cX12_qTest 128 = .ok (.goto (-18), 3) := by decide +kernel
theorem dX12_qTest_131 : decode cX12_qTest 131 = .ok (.return_, 1) := by decide +kernel
theorem dX12_personMany_0 : decode cX12_personMany 0 = .ok (.aload_n 0, 1) := by decide +kernel
theorem dX12_personMany_1 : decode cX12_personMany 1 = .ok (.getfield 105, 3) := by decide +kernel
theorem dX12_personMany_4 : decode cX12_personMany 4 = .ok (.bipush 7, 2) := by decide +kernel
theorem dX12_personMany_6 : decode cX12_personMany 6 = .ok (.iaload, 1) := by decide +kernel
theorem dX12_personMany_7 : decode cX12_personMany 7 = .ok (.ireturn, 1) := by decide +kernel
theorem dX12_qPuts_0 : decode cX12_qPuts 0 = .ok (.aload_n 0, 1) := by decide +kernel
theorem dX12_qPuts_1 : decode cX12_qPuts 1 = .ok (.getfield 248, 3) := by decide +kernel
theorem dX12_qPuts_4 : decode cX12_qPuts 4 = .ok (.aload_n 0, 1) := by decide +kernel
theorem dX12_qPuts_5 : decode cX12_qPuts 5 = .ok (.getfield 421, 3) := by decide +kernel
theorem dX12_qPuts_8 : decode cX12_qPuts 8 = .ok (.lload_n 1, 1) := by decide +kernel
theorem dX12_qPuts_9 : decode cX12_qPuts 9 = .ok (.lastore, 1) := by decide +kernel
theorem dX12_qPuts_10 : decode cX12_qPuts 10 = .ok (.aload_n 0, 1) := by decide +kernel
theorem dX12_qPuts_11 : decode cX12_qPuts 11 = .ok (.dup, 1) := by decide +kernel
theorem dX12_qPuts_12 : decode cX12_qPuts 12 = .ok (.getfield 421, 3) := by decide +kernel
theorem dX12_qPuts_15 : decode cX12_qPuts 15 = .ok (.iconst 1, 1) := by decide +kernel
theorem dX12_qPuts_16 : decode cX12_qPuts 16 = .ok (.iadd, 1) := by decide +kernel
theorem dX12_qPuts_17 : decode cX12_qPuts 17 = .ok (.putfield 421, 3) := by decide +kernel
theorem dX12_qPuts_20 : decode cX12_qPuts 20 = .ok (.return_, 1) := by decide +kernel
theorem dX12_isSize_0 : decode cX12_isSize 0 = .ok (.lload_n 1, 1) := by decide +kernel
theorem dX12_isSize_1 : decode cX12_isSize 1 = .ok (.lconst 1, 1) := by decide +kernel
theorem dX12_isSize_2 : decode cX12_isSize 2 = .ok (.aload_n 0, 1) := by decide +kernel
theorem dX12_isSize_3 : decode cX12_isSize 3 = .ok (.invokevirtual 396, 3) := by decide +kernel
theorem dX12_isSize_6 : decode cX12_isSize 6 = .ok (.i2l, 1) := by decide +kernel
theorem dX12_isSize_7 : decode cX12_isSize 7 = .ok (.invokestatic 300, 3) := by decide +kernel
theorem dX12_isSize_10 : decode cX12_isSize 10 = .ok (.ireturn, 1) := by decide +kernel
theorem dX12_qOf_0 : decode cX12_qOf 0 = .ok (.iload_n 1, 1) := by decide +kernel
theorem dX12_qOf_1 : decode cX12_qOf 1 = .ok (.lookupswitch 40 #[(0, 19)], 19) := by decide +kernel
theorem dX12_qOf_20 : decode cX12_qOf 20 = .ok (.aload_n 0, 1) := by decide +kernel
theorem dX12_qOf_21 : decode cX12_qOf 21 = .ok (.lload_n 2, 1) := by decide +kernel
theorem dX12_qOf_22 : decode cX12_qOf 22 = .ok (.invokevirtual 510, 3) := by decide +kernel
theorem dX12_qOf_25 : decode cX12_qOf 25 = .ok (.ifCond .eq 14, 3) := by decide +kernel
theorem dX12_qOf_28 : decode cX12_qOf 28 = .ok (.aload_n 0, 1) := by decide +kernel
theorem dX12_qOf_29 : decode cX12_qOf 29 = .ok (.getfield 127, 3) := by decide +kernel
theorem dX12_qOf_32 : decode cX12_qOf 32 = .ok (.lload_n 2, 1) := by decide +kernel
theorem dX12_qOf_33 : decode cX12_qOf 33 = .ok (.l2i, 1) := by decide +kernel
theorem dX12_qOf_34 : decode cX12_qOf 34 = .ok (.iaload, 1) := by decide +kernel
theorem dX12_qOf_35 : decode cX12_qOf 35 = .ok (.i2l, 1) := by decide +kernel
theorem dX12_qOf_36 : decode cX12_qOf 36 = .ok (.goto 4, 3) := by decide +kernel
theorem dX12_qOf_39 : decode cX12_qOf 39 = .ok (.lconst 0, 1) := by decide +kernel
theorem dX12_qOf_40 : decode cX12_qOf 40 = .ok (.lreturn, 1) := by decide +kernel
theorem dX12_qOf_41 : decode cX12_qOf 41 = .ok (.aload_n 0, 1) := by decide +kernel
theorem dX12_qOf_42 : decode cX12_qOf 42 = .ok (.lload_n 2, 1) := by decide +kernel
theorem dX12_qOf_43 : decode cX12_qOf 43 = .ok (.invokevirtual 510, 3) := by decide +kernel
theorem dX12_qOf_46 : decode cX12_qOf 46 = .ok (.ifCond .eq 21, 3) := by decide +kernel
theorem dX12_qOf_49 : decode cX12_qOf 49 = .ok (.aload_n 0, 1) := by decide +kernel
theorem dX12_qOf_50 : decode cX12_qOf 50 = .ok (.getfield 145, 3) := by decide +kernel
theorem dX12_qOf_53 : decode cX12_qOf 53 = .ok (.iload 4, 2) := by decide +kernel
theorem dX12_qOf_55 : decode cX12_qOf 55 = .ok (.iaload, 1) := by decide +kernel
theorem dX12_qOf_56 : decode cX12_qOf 56 = .ok (.lload_n 2, 1) := by decide +kernel
theorem dX12_qOf_57 : decode cX12_qOf 57 = .ok (.l2i, 1) := by decide +kernel
theorem dX12_qOf_58 : decode cX12_qOf 58 = .ok (.iconst 1, 1) := by decide +kernel
theorem dX12_qOf_59 : decode cX12_qOf 59 = .ok (.isub, 1) := by decide +kernel
theorem dX12_qOf_60 : decode cX12_qOf 60 = .ok (.ishr, 1) := by decide +kernel
theorem dX12_qOf_61 : decode cX12_qOf 61 = .ok (.i2l, 1) := by decide +kernel
theorem dX12_qOf_62 : decode cX12_qOf 62 = .ok (.lconst 1, 1) := by decide +kernel
theorem dX12_qOf_63 : decode cX12_qOf 63 = .ok (.land, 1) := by decide +kernel
theorem dX12_qOf_64 : decode cX12_qOf 64 = .ok (.goto 4, 3) := by decide +kernel
theorem dX12_qOf_67 : decode cX12_qOf 67 = .ok (.lconst 0, 1) := by decide +kernel
theorem dX12_qOf_68 : decode cX12_qOf 68 = .ok (.lreturn, 1) := by decide +kernel
theorem dX12_qClip_0 : decode cX12_qClip 0 = .ok (.lload_n 0, 1) := by decide +kernel
theorem dX12_qClip_1 : decode cX12_qClip 1 = .ok (.ldc2_w 667, 3) := by decide +kernel
theorem dX12_qClip_4 : decode cX12_qClip 4 = .ok (.lcmp, 1) := by decide +kernel
theorem dX12_qClip_5 : decode cX12_qClip 5 = .ok (.ifCond .le 9, 3) := by decide +kernel
theorem dX12_qClip_8 : decode cX12_qClip 8 = .ok (.ldc2_w 667, 3) := by decide +kernel
theorem dX12_qClip_11 : decode cX12_qClip 11 = .ok (.goto 18, 3) := by decide +kernel
theorem dX12_qClip_14 : decode cX12_qClip 14 = .ok (.lload_n 0, 1) := by decide +kernel
theorem dX12_qClip_15 : decode cX12_qClip 15 = .ok (.ldc2_w 669, 3) := by decide +kernel
theorem dX12_qClip_18 : decode cX12_qClip 18 = .ok (.lcmp, 1) := by decide +kernel
theorem dX12_qClip_19 : decode cX12_qClip 19 = .ok (.ifCond .ge 9, 3) := by decide +kernel
theorem dX12_qClip_22 : decode cX12_qClip 22 = .ok (.ldc2_w 669, 3) := by decide +kernel
theorem dX12_qClip_25 : decode cX12_qClip 25 = .ok (.goto 4, 3) := by decide +kernel
theorem dX12_qClip_28 : decode cX12_qClip 28 = .ok (.lload_n 0, 1) := by decide +kernel
theorem dX12_qClip_29 : decode cX12_qClip 29 = .ok (.lreturn, 1) := by decide +kernel
theorem dX12_hungerOf_0 : decode cX12_hungerOf 0 = .ok (.aload_n 0, 1) := by decide +kernel
theorem dX12_hungerOf_1 : decode cX12_hungerOf 1 = .ok (.getfield 127, 3) := by decide +kernel
theorem dX12_hungerOf_4 : decode cX12_hungerOf 4 = .ok (.bipush 25, 2) := by decide +kernel
theorem dX12_hungerOf_6 : decode cX12_hungerOf 6 = .ok (.iconst 2, 1) := by decide +kernel
theorem dX12_hungerOf_7 : decode cX12_hungerOf 7 = .ok (.iload_n 1, 1) := by decide +kernel
theorem dX12_hungerOf_8 : decode cX12_hungerOf 8 = .ok (.imul, 1) := by decide +kernel
theorem dX12_hungerOf_9 : decode cX12_hungerOf 9 = .ok (.iadd, 1) := by decide +kernel
theorem dX12_hungerOf_10 : decode cX12_hungerOf 10 = .ok (.iaload, 1) := by decide +kernel
theorem dX12_hungerOf_11 : decode cX12_hungerOf 11 = .ok (.ireturn, 1) := by decide +kernel
theorem dX12_timesOf_0 : decode cX12_timesOf 0 = .ok (.aload_n 0, 1) := by decide +kernel
theorem dX12_timesOf_1 : decode cX12_timesOf 1 = .ok (.getfield 127, 3) := by decide +kernel
theorem dX12_timesOf_4 : decode cX12_timesOf 4 = .ok (.bipush 26, 2) := by decide +kernel
theorem dX12_timesOf_6 : decode cX12_timesOf 6 = .ok (.iconst 2, 1) := by decide +kernel
theorem dX12_timesOf_7 : decode cX12_timesOf 7 = .ok (.iload_n 1, 1) := by decide +kernel
theorem dX12_timesOf_8 : decode cX12_timesOf 8 = .ok (.imul, 1) := by decide +kernel
theorem dX12_timesOf_9 : decode cX12_timesOf 9 = .ok (.iadd, 1) := by decide +kernel
theorem dX12_timesOf_10 : decode cX12_timesOf 10 = .ok (.iaload, 1) := by decide +kernel
theorem dX12_timesOf_11 : decode cX12_timesOf 11 = .ok (.ireturn, 1) := by decide +kernel
theorem dX12_qPartOf_0 : decode cX12_qPartOf 0 = .ok (.iload_n 1, 1) := by decide +kernel
theorem dX12_qPartOf_1 : decode cX12_qPartOf 1 = .ok (.tableswitch 141 0 8 #[51, 57, 68, 76, 82, 92, 98, 114, 130], 51) := by decide +kernel
theorem dX12_qPartOf_52 : decode cX12_qPartOf 52 = .ok (.aload_n 0, 1) := by decide +kernel
theorem dX12_qPartOf_53 : decode cX12_qPartOf 53 = .ok (.getfield 443, 3) := by decide +kernel
theorem dX12_qPartOf_56 : decode cX12_qPartOf 56 = .ok (.i2l, 1) := by decide +kernel
theorem dX12_qPartOf_57 : decode cX12_qPartOf 57 = .ok (.lreturn, 1) := by decide +kernel
theorem dX12_qPartOf_58 : decode cX12_qPartOf 58 = .ok (.aload_n 0, 1) := by decide +kernel
theorem dX12_qPartOf_59 : decode cX12_qPartOf 59 = .ok (.getfield 127, 3) := by decide +kernel
theorem dX12_qPartOf_62 : decode cX12_qPartOf 62 = .ok (.aload_n 0, 1) := by decide +kernel
theorem dX12_qPartOf_63 : decode cX12_qPartOf 63 = .ok (.getfield 443, 3) := by decide +kernel
theorem dX12_qPartOf_66 : decode cX12_qPartOf 66 = .ok (.iaload, 1) := by decide +kernel
theorem dX12_qPartOf_67 : decode cX12_qPartOf 67 = .ok (.i2l, 1) := by decide +kernel
theorem dX12_qPartOf_68 : decode cX12_qPartOf 68 = .ok (.lreturn, 1) := by decide +kernel
theorem dX12_qPartOf_69 : decode cX12_qPartOf 69 = .ok (.aload_n 0, 1) := by decide +kernel
theorem dX12_qPartOf_70 : decode cX12_qPartOf 70 = .ok (.getfield 127, 3) := by decide +kernel
theorem dX12_qPartOf_73 : decode cX12_qPartOf 73 = .ok (.iconst 0, 1) := by decide +kernel
theorem dX12_qPartOf_74 : decode cX12_qPartOf 74 = .ok (.iaload, 1) := by decide +kernel
theorem dX12_qPartOf_75 : decode cX12_qPartOf 75 = .ok (.i2l, 1) := by decide +kernel
theorem dX12_qPartOf_76 : decode cX12_qPartOf 76 = .ok (.lreturn, 1) := by decide +kernel
theorem dX12_qPartOf_77 : decode cX12_qPartOf 77 = .ok (.aload_n 0, 1) := by decide +kernel
theorem dX12_qPartOf_78 : decode cX12_qPartOf 78 = .ok (.getfield 527, 3) := by decide +kernel
theorem dX12_qPartOf_81 : decode cX12_qPartOf 81 = .ok (.i2l, 1) := by decide +kernel
theorem dX12_qPartOf_82 : decode cX12_qPartOf 82 = .ok (.lreturn, 1) := by decide +kernel
theorem dX12_qPartOf_83 : decode cX12_qPartOf 83 = .ok (.aload_n 0, 1) := by decide +kernel
theorem dX12_qPartOf_84 : decode cX12_qPartOf 84 = .ok (.aload_n 0, 1) := by decide +kernel
theorem dX12_qPartOf_85 : decode cX12_qPartOf 85 = .ok (.getfield 440, 3) := by decide +kernel
theorem dX12_qPartOf_88 : decode cX12_qPartOf 88 = .ok (.invokevirtual 474, 3) := by decide +kernel
theorem dX12_qPartOf_91 : decode cX12_qPartOf 91 = .ok (.i2l, 1) := by decide +kernel
theorem dX12_qPartOf_92 : decode cX12_qPartOf 92 = .ok (.lreturn, 1) := by decide +kernel
theorem dX12_qPartOf_93 : decode cX12_qPartOf 93 = .ok (.aload_n 0, 1) := by decide +kernel
theorem dX12_qPartOf_94 : decode cX12_qPartOf 94 = .ok (.getfield 440, 3) := by decide +kernel
theorem dX12_qPartOf_97 : decode cX12_qPartOf 97 = .ok (.i2l, 1) := by decide +kernel
theorem dX12_qPartOf_98 : decode cX12_qPartOf 98 = .ok (.lreturn, 1) := by decide +kernel
theorem dX12_qPartOf_99 : decode cX12_qPartOf 99 = .ok (.aload_n 0, 1) := by decide +kernel
theorem dX12_qPartOf_100 : decode cX12_qPartOf 100 = .ok (.getfield 112, 3) := by decide +kernel
theorem dX12_qPartOf_103 : decode cX12_qPartOf 103 = .ok (.bipush 12, 2) := by decide +kernel
theorem dX12_qPartOf_105 : decode cX12_qPartOf 105 = .ok (.iconst 2, 1) := by decide +kernel
theorem dX12_qPartOf_106 : decode cX12_qPartOf 106 = .ok (.aload_n 0, 1) := by decide +kernel
theorem dX12_qPartOf_107 : decode cX12_qPartOf 107 = .ok (.getfield 440, 3) := by decide +kernel
theorem dX12_qPartOf_110 : decode cX12_qPartOf 110 = .ok (.imul, 1) := by decide +kernel
theorem dX12_qPartOf_111 : decode cX12_qPartOf 111 = .ok (.iadd, 1) := by decide +kernel
theorem dX12_qPartOf_112 : decode cX12_qPartOf 112 = .ok (.iaload, 1) := by decide +kernel
theorem dX12_qPartOf_113 : decode cX12_qPartOf 113 = .ok (.i2l, 1) := by decide +kernel
theorem dX12_qPartOf_114 : decode cX12_qPartOf 114 = .ok (.lreturn, 1) := by decide +kernel
theorem dX12_qPartOf_115 : decode cX12_qPartOf 115 = .ok (.aload_n 0, 1) := by decide +kernel
theorem dX12_qPartOf_116 : decode cX12_qPartOf 116 = .ok (.getfield 112, 3) := by decide +kernel
theorem dX12_qPartOf_119 : decode cX12_qPartOf 119 = .ok (.bipush 13, 2) := by decide +kernel
theorem dX12_qPartOf_121 : decode cX12_qPartOf 121 = .ok (.iconst 2, 1) := by decide +kernel
theorem dX12_qPartOf_122 : decode cX12_qPartOf 122 = .ok (.aload_n 0, 1) := by decide +kernel
theorem dX12_qPartOf_123 : decode cX12_qPartOf 123 = .ok (.getfield 440, 3) := by decide +kernel
theorem dX12_qPartOf_126 : decode cX12_qPartOf 126 = .ok (.imul, 1) := by decide +kernel
theorem dX12_qPartOf_127 : decode cX12_qPartOf 127 = .ok (.iadd, 1) := by decide +kernel
theorem dX12_qPartOf_128 : decode cX12_qPartOf 128 = .ok (.iaload, 1) := by decide +kernel
theorem dX12_qPartOf_129 : decode cX12_qPartOf 129 = .ok (.i2l, 1) := by decide +kernel
theorem dX12_qPartOf_130 : decode cX12_qPartOf 130 = .ok (.lreturn, 1) := by decide +kernel
theorem dX12_qPartOf_131 : decode cX12_qPartOf 131 = .ok (.aload_n 0, 1) := by decide +kernel
theorem dX12_qPartOf_132 : decode cX12_qPartOf 132 = .ok (.getfield 142, 3) := by decide +kernel
theorem dX12_qPartOf_135 : decode cX12_qPartOf 135 = .ok (.aload_n 0, 1) := by decide +kernel
theorem dX12_qPartOf_136 : decode cX12_qPartOf 136 = .ok (.getfield 440, 3) := by decide +kernel
theorem dX12_qPartOf_139 : decode cX12_qPartOf 139 = .ok (.iaload, 1) := by decide +kernel
theorem dX12_qPartOf_140 : decode cX12_qPartOf 140 = .ok (.i2l, 1) := by decide +kernel
theorem dX12_qPartOf_141 : decode cX12_qPartOf 141 = .ok (.lreturn, 1) := by decide +kernel
theorem dX12_qPartOf_142 : decode cX12_qPartOf 142 = .ok (.aload_n 0, 1) := by decide +kernel
theorem dX12_qPartOf_143 : decode cX12_qPartOf 143 = .ok (.aload_n 0, 1) := by decide +kernel
theorem dX12_qPartOf_144 : decode cX12_qPartOf 144 = .ok (.getfield 440, 3) := by decide +kernel
theorem dX12_qPartOf_147 : decode cX12_qPartOf 147 = .ok (.invokevirtual 465, 3) := by decide +kernel
theorem dX12_qPartOf_150 : decode cX12_qPartOf 150 = .ok (.i2l, 1) := by decide +kernel
theorem dX12_qPartOf_151 : decode cX12_qPartOf 151 = .ok (.lreturn, 1) := by decide +kernel
theorem dX12_qFloor_0 : decode cX12_qFloor 0 = .ok (.lload_n 2, 1) := by decide +kernel
theorem dX12_qFloor_1 : decode cX12_qFloor 1 = .ok (.lconst 0, 1) := by decide +kernel
theorem dX12_qFloor_2 : decode cX12_qFloor 2 = .ok (.lcmp, 1) := by decide +kernel
theorem dX12_qFloor_3 : decode cX12_qFloor 3 = .ok (.ifCond .ne 5, 3) := by decide +kernel
theorem dX12_qFloor_6 : decode cX12_qFloor 6 = .ok (.lconst 0, 1) := by decide +kernel
theorem dX12_qFloor_7 : decode cX12_qFloor 7 = .ok (.lreturn, 1) := by decide +kernel
theorem dX12_qFloor_8 : decode cX12_qFloor 8 = .ok (.lload_n 0, 1) := by decide +kernel
theorem dX12_qFloor_9 : decode cX12_qFloor 9 = .ok (.lload_n 2, 1) := by decide +kernel
theorem dX12_qFloor_10 : decode cX12_qFloor 10 = .ok (.ldiv, 1) := by decide +kernel
theorem dX12_qFloor_11 : decode cX12_qFloor 11 = .ok (.lstore 4, 2) := by decide +kernel
theorem dX12_qFloor_13 : decode cX12_qFloor 13 = .ok (.lload_n 0, 1) := by decide +kernel
theorem dX12_qFloor_14 : decode cX12_qFloor 14 = .ok (.lload_n 2, 1) := by decide +kernel
theorem dX12_qFloor_15 : decode cX12_qFloor 15 = .ok (.lrem, 1) := by decide +kernel
theorem dX12_qFloor_16 : decode cX12_qFloor 16 = .ok (.lconst 0, 1) := by decide +kernel
theorem dX12_qFloor_17 : decode cX12_qFloor 17 = .ok (.lcmp, 1) := by decide +kernel
theorem dX12_qFloor_18 : decode cX12_qFloor 18 = .ok (.ifCond .eq 35, 3) := by decide +kernel
theorem dX12_qFloor_21 : decode cX12_qFloor 21 = .ok (.lload_n 0, 1) := by decide +kernel
theorem dX12_qFloor_22 : decode cX12_qFloor 22 = .ok (.lconst 0, 1) := by decide +kernel
theorem dX12_qFloor_23 : decode cX12_qFloor 23 = .ok (.lcmp, 1) := by decide +kernel
theorem dX12_qFloor_24 : decode cX12_qFloor 24 = .ok (.ifCond .ge 7, 3) := by decide +kernel
theorem dX12_qFloor_27 : decode cX12_qFloor 27 = .ok (.iconst 1, 1) := by decide +kernel
theorem dX12_qFloor_28 : decode cX12_qFloor 28 = .ok (.goto 4, 3) := by decide +kernel
theorem dX12_qFloor_31 : decode cX12_qFloor 31 = .ok (.iconst 0, 1) := by decide +kernel
theorem dX12_qFloor_32 : decode cX12_qFloor 32 = .ok (.lload_n 2, 1) := by decide +kernel
theorem dX12_qFloor_33 : decode cX12_qFloor 33 = .ok (.lconst 0, 1) := by decide +kernel
theorem dX12_qFloor_34 : decode cX12_qFloor 34 = .ok (.lcmp, 1) := by decide +kernel
theorem dX12_qFloor_35 : decode cX12_qFloor 35 = .ok (.ifCond .ge 7, 3) := by decide +kernel
theorem dX12_qFloor_38 : decode cX12_qFloor 38 = .ok (.iconst 1, 1) := by decide +kernel
theorem dX12_qFloor_39 : decode cX12_qFloor 39 = .ok (.goto 4, 3) := by decide +kernel
theorem dX12_qFloor_42 : decode cX12_qFloor 42 = .ok (.iconst 0, 1) := by decide +kernel
theorem dX12_qFloor_43 : decode cX12_qFloor 43 = .ok (.if_icmp .eq 10, 3) := by decide +kernel
theorem dX12_qFloor_46 : decode cX12_qFloor 46 = .ok (.lload 4, 2) := by decide +kernel
theorem dX12_qFloor_48 : decode cX12_qFloor 48 = .ok (.lconst 1, 1) := by decide +kernel
theorem dX12_qFloor_49 : decode cX12_qFloor 49 = .ok (.lsub, 1) := by decide +kernel
theorem dX12_qFloor_50 : decode cX12_qFloor 50 = .ok (.goto 5, 3) := by decide +kernel
theorem dX12_qFloor_53 : decode cX12_qFloor 53 = .ok (.lload 4, 2) := by decide +kernel
theorem dX12_qFloor_55 : decode cX12_qFloor 55 = .ok (.lreturn, 1) := by decide +kernel
theorem dX12_qJoins_0 : decode cX12_qJoins 0 = .ok (.aload_n 0, 1) := by decide +kernel
theorem dX12_qJoins_1 : decode cX12_qJoins 1 = .ok (.getfield 248, 3) := by decide +kernel
theorem dX12_qJoins_4 : decode cX12_qJoins 4 = .ok (.aload_n 0, 1) := by decide +kernel
theorem dX12_qJoins_5 : decode cX12_qJoins 5 = .ok (.getfield 421, 3) := by decide +kernel
theorem dX12_qJoins_8 : decode cX12_qJoins 8 = .ok (.iconst 1, 1) := by decide +kernel
theorem dX12_qJoins_9 : decode cX12_qJoins 9 = .ok (.isub, 1) := by decide +kernel
theorem dX12_qJoins_10 : decode cX12_qJoins 10 = .ok (.laload, 1) := by decide +kernel
theorem dX12_qJoins_11 : decode cX12_qJoins 11 = .ok (.lstore_n 2, 1) := by decide +kernel
theorem dX12_qJoins_12 : decode cX12_qJoins 12 = .ok (.aload_n 0, 1) := by decide +kernel
theorem dX12_qJoins_13 : decode cX12_qJoins 13 = .ok (.getfield 248, 3) := by decide +kernel
theorem dX12_qJoins_16 : decode cX12_qJoins 16 = .ok (.aload_n 0, 1) := by decide +kernel
theorem dX12_qJoins_17 : decode cX12_qJoins 17 = .ok (.getfield 421, 3) := by decide +kernel
theorem dX12_qJoins_20 : decode cX12_qJoins 20 = .ok (.iconst 2, 1) := by decide +kernel
theorem dX12_qJoins_21 : decode cX12_qJoins 21 = .ok (.isub, 1) := by decide +kernel
theorem dX12_qJoins_22 : decode cX12_qJoins 22 = .ok (.laload, 1) := by decide +kernel
theorem dX12_qJoins_23 : decode cX12_qJoins 23 = .ok (.lstore 4, 2) := by decide +kernel
theorem dX12_qJoins_25 : decode cX12_qJoins 25 = .ok (.aload_n 0, 1) := by decide +kernel
theorem dX12_qJoins_26 : decode cX12_qJoins 26 = .ok (.dup, 1) := by decide +kernel
theorem dX12_qJoins_27 : decode cX12_qJoins 27 = .ok (.getfield 421, 3) := by decide +kernel
theorem dX12_qJoins_30 : decode cX12_qJoins 30 = .ok (.iconst 2, 1) := by decide +kernel
theorem dX12_qJoins_31 : decode cX12_qJoins 31 = .ok (.isub, 1) := by decide +kernel
theorem dX12_qJoins_32 : decode cX12_qJoins 32 = .ok (.putfield 421, 3) := by decide +kernel
theorem dX12_qJoins_35 : decode cX12_qJoins 35 = .ok (.iload_n 1, 1) := by decide +kernel
theorem dX12_qJoins_36 : decode cX12_qJoins 36 = .ok (.tableswitch 219 1 10 #[56, 70, 84, 98, 111, 131, 151, 170, 189, 208], 56) := by decide +kernel
theorem dX12_qJoins_92 : decode cX12_qJoins 92 = .ok (.aload_n 0, 1) := by decide +kernel
theorem dX12_qJoins_93 : decode cX12_qJoins 93 = .ok (.lload 4, 2) := by decide +kernel
theorem dX12_qJoins_95 : decode cX12_qJoins 95 = .ok (.lload_n 2, 1) := by decide +kernel
theorem dX12_qJoins_96 : decode cX12_qJoins 96 = .ok (.ladd, 1) := by decide +kernel
theorem dX12_qJoins_97 : decode cX12_qJoins 97 = .ok (.invokestatic 671, 3) := by decide +kernel
theorem dX12_qJoins_100 : decode cX12_qJoins 100 = .ok (.invokevirtual 424, 3) := by decide +kernel
theorem dX12_qJoins_103 : decode cX12_qJoins 103 = .ok (.goto 170, 3) := by decide +kernel
theorem dX12_qJoins_106 : decode cX12_qJoins 106 = .ok (.aload_n 0, 1) := by decide +kernel
theorem dX12_qJoins_107 : decode cX12_qJoins 107 = .ok (.lload 4, 2) := by decide +kernel
theorem dX12_qJoins_109 : decode cX12_qJoins 109 = .ok (.lload_n 2, 1) := by decide +kernel
theorem dX12_qJoins_110 : decode cX12_qJoins 110 = .ok (.lsub, 1) := by decide +kernel
theorem dX12_qJoins_111 : decode cX12_qJoins 111 = .ok (.invokestatic 671, 3) := by decide +kernel
theorem dX12_qJoins_114 : decode cX12_qJoins 114 = .ok (.invokevirtual 424, 3) := by decide +kernel
theorem dX12_qJoins_117 : decode cX12_qJoins 117 = .ok (.goto 156, 3) := by decide +kernel
theorem dX12_qJoins_120 : decode cX12_qJoins 120 = .ok (.aload_n 0, 1) := by decide +kernel
theorem dX12_qJoins_121 : decode cX12_qJoins 121 = .ok (.lload 4, 2) := by decide +kernel
theorem dX12_qJoins_123 : decode cX12_qJoins 123 = .ok (.lload_n 2, 1) := by decide +kernel
theorem dX12_qJoins_124 : decode cX12_qJoins 124 = .ok (.lmul, 1) := by decide +kernel
theorem dX12_qJoins_125 : decode cX12_qJoins 125 = .ok (.invokestatic 671, 3) := by decide +kernel
theorem dX12_qJoins_128 : decode cX12_qJoins 128 = .ok (.invokevirtual 424, 3) := by decide +kernel
theorem dX12_qJoins_131 : decode cX12_qJoins 131 = .ok (.goto 142, 3) := by decide +kernel
theorem dX12_qJoins_134 : decode cX12_qJoins 134 = .ok (.aload_n 0, 1) := by decide +kernel
theorem dX12_qJoins_135 : decode cX12_qJoins 135 = .ok (.lload 4, 2) := by decide +kernel
theorem dX12_qJoins_137 : decode cX12_qJoins 137 = .ok (.lload_n 2, 1) := by decide +kernel
theorem dX12_qJoins_138 : decode cX12_qJoins 138 = .ok (.invokestatic 675, 3) := by decide +kernel
theorem dX12_qJoins_141 : decode cX12_qJoins 141 = .ok (.invokevirtual 424, 3) := by decide +kernel
theorem dX12_qJoins_144 : decode cX12_qJoins 144 = .ok (.goto 129, 3) := by decide +kernel
theorem dX12_qJoins_147 : decode cX12_qJoins 147 = .ok (.aload_n 0, 1) := by decide +kernel
theorem dX12_qJoins_148 : decode cX12_qJoins 148 = .ok (.lload 4, 2) := by decide +kernel
theorem dX12_qJoins_150 : decode cX12_qJoins 150 = .ok (.lload_n 2, 1) := by decide +kernel
theorem dX12_qJoins_151 : decode cX12_qJoins 151 = .ok (.lcmp, 1) := by decide +kernel
theorem dX12_qJoins_152 : decode cX12_qJoins 152 = .ok (.ifCond .ge 8, 3) := by decide +kernel
theorem dX12_qJoins_155 : decode cX12_qJoins 155 = .ok (.lload 4, 2) := by decide +kernel
theorem dX12_qJoins_157 : decode cX12_qJoins 157 = .ok (.goto 4, 3) := by decide +kernel
theorem dX12_qJoins_160 : decode cX12_qJoins 160 = .ok (.lload_n 2, 1) := by decide +kernel
theorem dX12_qJoins_161 : decode cX12_qJoins 161 = .ok (.invokevirtual 424, 3) := by decide +kernel
theorem dX12_qJoins_164 : decode cX12_qJoins 164 = .ok (.goto 109, 3) := by decide +kernel
theorem dX12_qJoins_167 : decode cX12_qJoins 167 = .ok (.aload_n 0, 1) := by decide +kernel
theorem dX12_qJoins_168 : decode cX12_qJoins 168 = .ok (.lload 4, 2) := by decide +kernel
theorem dX12_qJoins_170 : decode cX12_qJoins 170 = .ok (.lload_n 2, 1) := by decide +kernel
theorem dX12_qJoins_171 : decode cX12_qJoins 171 = .ok (.lcmp, 1) := by decide +kernel
theorem dX12_qJoins_172 : decode cX12_qJoins 172 = .ok (.ifCond .le 8, 3) := by decide +kernel
theorem dX12_qJoins_175 : decode cX12_qJoins 175 = .ok (.lload 4, 2) := by decide +kernel
theorem dX12_qJoins_177 : decode cX12_qJoins 177 = .ok (.goto 4, 3) := by decide +kernel
theorem dX12_qJoins_180 : decode cX12_qJoins 180 = .ok (.lload_n 2, 1) := by decide +kernel
theorem dX12_qJoins_181 : decode cX12_qJoins 181 = .ok (.invokevirtual 424, 3) := by decide +kernel
theorem dX12_qJoins_184 : decode cX12_qJoins 184 = .ok (.goto 89, 3) := by decide +kernel
theorem dX12_qJoins_187 : decode cX12_qJoins 187 = .ok (.aload_n 0, 1) := by decide +kernel
theorem dX12_qJoins_188 : decode cX12_qJoins 188 = .ok (.lload 4, 2) := by decide +kernel
theorem dX12_qJoins_190 : decode cX12_qJoins 190 = .ok (.lload_n 2, 1) := by decide +kernel
theorem dX12_qJoins_191 : decode cX12_qJoins 191 = .ok (.lcmp, 1) := by decide +kernel
theorem dX12_qJoins_192 : decode cX12_qJoins 192 = .ok (.ifCond .ge 7, 3) := by decide +kernel
theorem dX12_qJoins_195 : decode cX12_qJoins 195 = .ok (.lconst 1, 1) := by decide +kernel
theorem dX12_qJoins_196 : decode cX12_qJoins 196 = .ok (.goto 4, 3) := by decide +kernel
theorem dX12_qJoins_199 : decode cX12_qJoins 199 = .ok (.lconst 0, 1) := by decide +kernel
theorem dX12_qJoins_200 : decode cX12_qJoins 200 = .ok (.invokevirtual 424, 3) := by decide +kernel
theorem dX12_qJoins_203 : decode cX12_qJoins 203 = .ok (.goto 70, 3) := by decide +kernel
theorem dX12_qJoins_206 : decode cX12_qJoins 206 = .ok (.aload_n 0, 1) := by decide +kernel
theorem dX12_qJoins_207 : decode cX12_qJoins 207 = .ok (.lload 4, 2) := by decide +kernel
theorem dX12_qJoins_209 : decode cX12_qJoins 209 = .ok (.lload_n 2, 1) := by decide +kernel
theorem dX12_qJoins_210 : decode cX12_qJoins 210 = .ok (.lcmp, 1) := by decide +kernel
theorem dX12_qJoins_211 : decode cX12_qJoins 211 = .ok (.ifCond .le 7, 3) := by decide +kernel
theorem dX12_qJoins_214 : decode cX12_qJoins 214 = .ok (.lconst 1, 1) := by decide +kernel
theorem dX12_qJoins_215 : decode cX12_qJoins 215 = .ok (.goto 4, 3) := by decide +kernel
theorem dX12_qJoins_218 : decode cX12_qJoins 218 = .ok (.lconst 0, 1) := by decide +kernel
theorem dX12_qJoins_219 : decode cX12_qJoins 219 = .ok (.invokevirtual 424, 3) := by decide +kernel
theorem dX12_qJoins_222 : decode cX12_qJoins 222 = .ok (.goto 51, 3) := by decide +kernel
theorem dX12_qJoins_225 : decode cX12_qJoins 225 = .ok (.aload_n 0, 1) := by decide +kernel
theorem dX12_qJoins_226 : decode cX12_qJoins 226 = .ok (.lload 4, 2) := by decide +kernel
theorem dX12_qJoins_228 : decode cX12_qJoins 228 = .ok (.lload_n 2, 1) := by decide +kernel
theorem dX12_qJoins_229 : decode cX12_qJoins 229 = .ok (.lcmp, 1) := by decide +kernel
theorem dX12_qJoins_230 : decode cX12_qJoins 230 = .ok (.ifCond .ne 7, 3) := by decide +kernel
theorem dX12_qJoins_233 : decode cX12_qJoins 233 = .ok (.lconst 1, 1) := by decide +kernel
theorem dX12_qJoins_234 : decode cX12_qJoins 234 = .ok (.goto 4, 3) := by decide +kernel
theorem dX12_qJoins_237 : decode cX12_qJoins 237 = .ok (.lconst 0, 1) := by decide +kernel
theorem dX12_qJoins_238 : decode cX12_qJoins 238 = .ok (.invokevirtual 424, 3) := by decide +kernel
theorem dX12_qJoins_241 : decode cX12_qJoins 241 = .ok (.goto 32, 3) := by decide +kernel
theorem dX12_qJoins_244 : decode cX12_qJoins 244 = .ok (.aload_n 0, 1) := by decide +kernel
theorem dX12_qJoins_245 : decode cX12_qJoins 245 = .ok (.lload 4, 2) := by decide +kernel
theorem dX12_qJoins_247 : decode cX12_qJoins 247 = .ok (.lload_n 2, 1) := by decide +kernel
theorem dX12_qJoins_248 : decode cX12_qJoins 248 = .ok (.lmul, 1) := by decide +kernel
theorem dX12_qJoins_249 : decode cX12_qJoins 249 = .ok (.invokevirtual 424, 3) := by decide +kernel
theorem dX12_qJoins_252 : decode cX12_qJoins 252 = .ok (.goto 21, 3) := by decide +kernel
theorem dX12_qJoins_255 : decode cX12_qJoins 255 = .ok (.aload_n 0, 1) := by decide +kernel
theorem dX12_qJoins_256 : decode cX12_qJoins 256 = .ok (.lload 4, 2) := by decide +kernel
theorem dX12_qJoins_258 : decode cX12_qJoins 258 = .ok (.lload_n 2, 1) := by decide +kernel
theorem dX12_qJoins_259 : decode cX12_qJoins 259 = .ok (.ladd, 1) := by decide +kernel
theorem dX12_qJoins_260 : decode cX12_qJoins 260 = .ok (.lconst 0, 1) := by decide +kernel
theorem dX12_qJoins_261 : decode cX12_qJoins 261 = .ok (.lcmp, 1) := by decide +kernel
theorem dX12_qJoins_262 : decode cX12_qJoins 262 = .ok (.ifCond .le 7, 3) := by decide +kernel
theorem dX12_qJoins_265 : decode cX12_qJoins 265 = .ok (.lconst 1, 1) := by decide +kernel
theorem dX12_qJoins_266 : decode cX12_qJoins 266 = .ok (.goto 4, 3) := by decide +kernel
theorem dX12_qJoins_269 : decode cX12_qJoins 269 = .ok (.lconst 0, 1) := by decide +kernel
theorem dX12_qJoins_270 : decode cX12_qJoins 270 = .ok (.invokevirtual 424, 3) := by decide +kernel
theorem dX12_qJoins_273 : decode cX12_qJoins 273 = .ok (.return_, 1) := by decide +kernel
theorem dX12_qTold_0 : decode cX12_qTold 0 = .ok (.aload_n 0, 1) := by decide +kernel
theorem dX12_qTold_1 : decode cX12_qTold 1 = .ok (.iconst 0, 1) := by decide +kernel
theorem dX12_qTold_2 : decode cX12_qTold 2 = .ok (.putfield 421, 3) := by decide +kernel
theorem dX12_qTold_5 : decode cX12_qTold 5 = .ok (.iconst 0, 1) := by decide +kernel
theorem dX12_qTold_6 : decode cX12_qTold 6 = .ok (.istore_n 2, 1) := by decide +kernel
theorem dX12_qTold_7 : decode cX12_qTold 7 = .ok (.iload_n 2, 1) := by decide +kernel
theorem dX12_qTold_8 : decode cX12_qTold 8 = .ok (.aload_n 0, 1) := by decide +kernel
theorem dX12_qTold_9 : decode cX12_qTold 9 = .ok (.getfield 334, 3) := by decide +kernel
theorem dX12_qTold_12 : decode cX12_qTold 12 = .ok (.if_icmp .ge 156, 3) := by decide +kernel
theorem dX12_qTold_15 : decode cX12_qTold 15 = .ok (.aload_n 0, 1) := by decide +kernel
theorem dX12_qTold_16 : decode cX12_qTold 16 = .ok (.getfield 242, 3) := by decide +kernel
theorem dX12_qTold_19 : decode cX12_qTold 19 = .ok (.iload_n 2, 1) := by decide +kernel
theorem dX12_qTold_20 : decode cX12_qTold 20 = .ok (.iaload, 1) := by decide +kernel
theorem dX12_qTold_21 : decode cX12_qTold 21 = .ok (.istore_n 3, 1) := by decide +kernel
theorem dX12_qTold_22 : decode cX12_qTold 22 = .ok (.iload_n 3, 1) := by decide +kernel
theorem dX12_qTold_23 : decode cX12_qTold 23 = .ok (.sipush 1000, 3) := by decide +kernel
theorem dX12_qTold_26 : decode cX12_qTold 26 = .ok (.if_icmp .lt 16, 3) := by decide +kernel
theorem dX12_qTold_29 : decode cX12_qTold 29 = .ok (.aload_n 0, 1) := by decide +kernel
theorem dX12_qTold_30 : decode cX12_qTold 30 = .ok (.iload_n 3, 1) := by decide +kernel
theorem dX12_qTold_31 : decode cX12_qTold 31 = .ok (.sipush 1000, 3) := by decide +kernel
theorem dX12_qTold_34 : decode cX12_qTold 34 = .ok (.isub, 1) := by decide +kernel
theorem dX12_qTold_35 : decode cX12_qTold 35 = .ok (.i2l, 1) := by decide +kernel
theorem dX12_qTold_36 : decode cX12_qTold 36 = .ok (.invokevirtual 424, 3) := by decide +kernel
theorem dX12_qTold_39 : decode cX12_qTold 39 = .ok (.goto 123, 3) := by decide +kernel
theorem dX12_qTold_42 : decode cX12_qTold 42 = .ok (.iload_n 3, 1) := by decide +kernel
theorem dX12_qTold_43 : decode cX12_qTold 43 = .ok (.bipush 60, 2) := by decide +kernel
theorem dX12_qTold_45 : decode cX12_qTold 45 = .ok (.if_icmp .lt 40, 3) := by decide +kernel
theorem dX12_qTold_48 : decode cX12_qTold 48 = .ok (.aload_n 0, 1) := by decide +kernel
theorem dX12_qTold_49 : decode cX12_qTold 49 = .ok (.getfield 248, 3) := by decide +kernel
theorem dX12_qTold_52 : decode cX12_qTold 52 = .ok (.aload_n 0, 1) := by decide +kernel
theorem dX12_qTold_53 : decode cX12_qTold 53 = .ok (.getfield 421, 3) := by decide +kernel
theorem dX12_qTold_56 : decode cX12_qTold 56 = .ok (.iconst 1, 1) := by decide +kernel
theorem dX12_qTold_57 : decode cX12_qTold 57 = .ok (.isub, 1) := by decide +kernel
theorem dX12_qTold_58 : decode cX12_qTold 58 = .ok (.aload_n 0, 1) := by decide +kernel
theorem dX12_qTold_59 : decode cX12_qTold 59 = .ok (.iload_n 3, 1) := by decide +kernel
theorem dX12_qTold_60 : decode cX12_qTold 60 = .ok (.bipush 60, 2) := by decide +kernel
theorem dX12_qTold_62 : decode cX12_qTold 62 = .ok (.isub, 1) := by decide +kernel
theorem dX12_qTold_63 : decode cX12_qTold 63 = .ok (.aload_n 0, 1) := by decide +kernel
theorem dX12_qTold_64 : decode cX12_qTold 64 = .ok (.getfield 248, 3) := by decide +kernel
theorem dX12_qTold_67 : decode cX12_qTold 67 = .ok (.aload_n 0, 1) := by decide +kernel
theorem dX12_qTold_68 : decode cX12_qTold 68 = .ok (.getfield 421, 3) := by decide +kernel
theorem dX12_qTold_71 : decode cX12_qTold 71 = .ok (.iconst 1, 1) := by decide +kernel
theorem dX12_qTold_72 : decode cX12_qTold 72 = .ok (.isub, 1) := by decide +kernel
theorem dX12_qTold_73 : decode cX12_qTold 73 = .ok (.laload, 1) := by decide +kernel
theorem dX12_qTold_74 : decode cX12_qTold 74 = .ok (.iload_n 1, 1) := by decide +kernel
theorem dX12_qTold_75 : decode cX12_qTold 75 = .ok (.invokevirtual 678, 3) := by decide +kernel
theorem dX12_qTold_78 : decode cX12_qTold 78 = .ok (.invokestatic 671, 3) := by decide +kernel
theorem dX12_qTold_81 : decode cX12_qTold 81 = .ok (.lastore, 1) := by decide +kernel
theorem dX12_qTold_82 : decode cX12_qTold 82 = .ok (.goto 80, 3) := by decide +kernel
theorem dX12_qTold_85 : decode cX12_qTold 85 = .ok (.iload_n 3, 1) := by decide +kernel
theorem dX12_qTold_86 : decode cX12_qTold 86 = .ok (.bipush 40, 2) := by decide +kernel
theorem dX12_qTold_88 : decode cX12_qTold 88 = .ok (.if_icmp .lt 22, 3) := by decide +kernel
theorem dX12_qTold_91 : decode cX12_qTold 91 = .ok (.aload_n 0, 1) := by decide +kernel
theorem dX12_qTold_92 : decode cX12_qTold 92 = .ok (.aload_n 0, 1) := by decide +kernel
theorem dX12_qTold_93 : decode cX12_qTold 93 = .ok (.iload_n 3, 1) := by decide +kernel
theorem dX12_qTold_94 : decode cX12_qTold 94 = .ok (.bipush 40, 2) := by decide +kernel
theorem dX12_qTold_96 : decode cX12_qTold 96 = .ok (.isub, 1) := by decide +kernel
theorem dX12_qTold_97 : decode cX12_qTold 97 = .ok (.iload_n 1, 1) := by decide +kernel
theorem dX12_qTold_98 : decode cX12_qTold 98 = .ok (.invokevirtual 427, 3) := by decide +kernel
theorem dX12_qTold_101 : decode cX12_qTold 101 = .ok (.invokestatic 671, 3) := by decide +kernel
theorem dX12_qTold_104 : decode cX12_qTold 104 = .ok (.invokevirtual 424, 3) := by decide +kernel
theorem dX12_qTold_107 : decode cX12_qTold 107 = .ok (.goto 55, 3) := by decide +kernel
theorem dX12_qTold_110 : decode cX12_qTold 110 = .ok (.iload_n 3, 1) := by decide +kernel
theorem dX12_qTold_111 : decode cX12_qTold 111 = .ok (.bipush 13, 2) := by decide +kernel
theorem dX12_qTold_113 : decode cX12_qTold 113 = .ok (.if_icmp .ne 11, 3) := by decide +kernel
theorem dX12_qTold_116 : decode cX12_qTold 116 = .ok (.aload_n 0, 1) := by decide +kernel
theorem dX12_qTold_117 : decode cX12_qTold 117 = .ok (.lconst 1, 1) := by decide +kernel
theorem dX12_qTold_118 : decode cX12_qTold 118 = .ok (.invokevirtual 424, 3) := by decide +kernel
theorem dX12_qTold_121 : decode cX12_qTold 121 = .ok (.goto 41, 3) := by decide +kernel
theorem dX12_qTold_124 : decode cX12_qTold 124 = .ok (.iload_n 3, 1) := by decide +kernel
theorem dX12_qTold_125 : decode cX12_qTold 125 = .ok (.bipush 12, 2) := by decide +kernel
theorem dX12_qTold_127 : decode cX12_qTold 127 = .ok (.if_icmp .ne 30, 3) := by decide +kernel
theorem dX12_qTold_130 : decode cX12_qTold 130 = .ok (.aload_n 0, 1) := by decide +kernel
theorem dX12_qTold_131 : decode cX12_qTold 131 = .ok (.getfield 248, 3) := by decide +kernel
theorem dX12_qTold_134 : decode cX12_qTold 134 = .ok (.aload_n 0, 1) := by decide +kernel
theorem dX12_qTold_135 : decode cX12_qTold 135 = .ok (.getfield 421, 3) := by decide +kernel
theorem dX12_qTold_138 : decode cX12_qTold 138 = .ok (.iconst 1, 1) := by decide +kernel
theorem dX12_qTold_139 : decode cX12_qTold 139 = .ok (.isub, 1) := by decide +kernel
theorem dX12_qTold_140 : decode cX12_qTold 140 = .ok (.lconst 1, 1) := by decide +kernel
theorem dX12_qTold_141 : decode cX12_qTold 141 = .ok (.aload_n 0, 1) := by decide +kernel
theorem dX12_qTold_142 : decode cX12_qTold 142 = .ok (.getfield 248, 3) := by decide +kernel
theorem dX12_qTold_145 : decode cX12_qTold 145 = .ok (.aload_n 0, 1) := by decide +kernel
theorem dX12_qTold_146 : decode cX12_qTold 146 = .ok (.getfield 421, 3) := by decide +kernel
theorem dX12_qTold_149 : decode cX12_qTold 149 = .ok (.iconst 1, 1) := by decide +kernel
theorem dX12_qTold_150 : decode cX12_qTold 150 = .ok (.isub, 1) := by decide +kernel
theorem dX12_qTold_151 : decode cX12_qTold 151 = .ok (.laload, 1) := by decide +kernel
theorem dX12_qTold_152 : decode cX12_qTold 152 = .ok (.lsub, 1) := by decide +kernel
theorem dX12_qTold_153 : decode cX12_qTold 153 = .ok (.lastore, 1) := by decide +kernel
theorem dX12_qTold_154 : decode cX12_qTold 154 = .ok (.goto 8, 3) := by decide +kernel
theorem dX12_qTold_157 : decode cX12_qTold 157 = .ok (.aload_n 0, 1) := by decide +kernel
theorem dX12_qTold_158 : decode cX12_qTold 158 = .ok (.iload_n 3, 1) := by decide +kernel
theorem dX12_qTold_159 : decode cX12_qTold 159 = .ok (.invokevirtual 430, 3) := by decide +kernel
theorem dX12_qTold_162 : decode cX12_qTold 162 = .ok (.iinc 2 1, 3) := by decide +kernel
theorem dX12_qTold_165 : decode cX12_qTold 165 = .ok (.goto (-158), 3) := by decide +kernel
theorem dX12_qTold_168 : decode cX12_qTold 168 = .ok (.aload_n 0, 1) := by decide +kernel
theorem dX12_qTold_169 : decode cX12_qTold 169 = .ok (.getfield 248, 3) := by decide +kernel
theorem dX12_qTold_172 : decode cX12_qTold 172 = .ok (.iconst 0, 1) := by decide +kernel
theorem dX12_qTold_173 : decode cX12_qTold 173 = .ok (.laload, 1) := by decide +kernel
theorem dX12_qTold_174 : decode cX12_qTold 174 = .ok (.lreturn, 1) := by decide +kernel
theorem dX12_qTakes_0 : decode cX12_qTakes 0 = .ok (.iload_n 1, 1) := by decide +kernel
theorem dX12_qTakes_1 : decode cX12_qTakes 1 = .ok (.iconst 3, 1) := by decide +kernel
theorem dX12_qTakes_2 : decode cX12_qTakes 2 = .ok (.if_icmp .ge 13, 3) := by decide +kernel
theorem dX12_qTakes_5 : decode cX12_qTakes 5 = .ok (.lload_n 2, 1) := by decide +kernel
theorem dX12_qTakes_6 : decode cX12_qTakes 6 = .ok (.lconst 1, 1) := by decide +kernel
theorem dX12_qTakes_7 : decode cX12_qTakes 7 = .ok (.lcmp, 1) := by decide +kernel
theorem dX12_qTakes_8 : decode cX12_qTakes 8 = .ok (.ifCond .ne 7, 3) := by decide +kernel
theorem dX12_qTakes_11 : decode cX12_qTakes 11 = .ok (.iconst 1, 1) := by decide +kernel
theorem dX12_qTakes_12 : decode cX12_qTakes 12 = .ok (.goto 4, 3) := by decide +kernel
theorem dX12_qTakes_15 : decode cX12_qTakes 15 = .ok (.iconst 0, 1) := by decide +kernel
theorem dX12_qTakes_16 : decode cX12_qTakes 16 = .ok (.istore 5, 2) := by decide +kernel
theorem dX12_qTakes_18 : decode cX12_qTakes 18 = .ok (.iload_n 1, 1) := by decide +kernel
theorem dX12_qTakes_19 : decode cX12_qTakes 19 = .ok (.ifCond .ne 19, 3) := by decide +kernel
theorem dX12_qTakes_22 : decode cX12_qTakes 22 = .ok (.iload 5, 2) := by decide +kernel
theorem dX12_qTakes_24 : decode cX12_qTakes 24 = .ok (.ifCond .eq 14, 3) := by decide +kernel
theorem dX12_qTakes_27 : decode cX12_qTakes 27 = .ok (.aload_n 0, 1) := by decide +kernel
theorem dX12_qTakes_28 : decode cX12_qTakes 28 = .ok (.getfield 682, 3) := by decide +kernel
theorem dX12_qTakes_31 : decode cX12_qTakes 31 = .ok (.ldc2_w 564, 3) := by decide +kernel
theorem dX12_qTakes_34 : decode cX12_qTakes 34 = .ok (.lcmp, 1) := by decide +kernel
theorem dX12_qTakes_35 : decode cX12_qTakes 35 = .ok (.ifCond .eq 13, 3) := by decide +kernel
theorem dX12_qTakes_38 : decode cX12_qTakes 38 = .ok (.iload_n 1, 1) := by decide +kernel
theorem dX12_qTakes_39 : decode cX12_qTakes 39 = .ok (.iconst 1, 1) := by decide +kernel
theorem dX12_qTakes_40 : decode cX12_qTakes 40 = .ok (.if_icmp .ne 15, 3) := by decide +kernel
theorem dX12_qTakes_43 : decode cX12_qTakes 43 = .ok (.iload 5, 2) := by decide +kernel
theorem dX12_qTakes_45 : decode cX12_qTakes 45 = .ok (.ifCond .eq 10, 3) := by decide +kernel
theorem dX12_qTakes_48 : decode cX12_qTakes 48 = .ok (.aload_n 0, 1) := by decide +kernel
theorem dX12_qTakes_49 : decode cX12_qTakes 49 = .ok (.iload 4, 2) := by decide +kernel
theorem dX12_qTakes_51 : decode cX12_qTakes 51 = .ok (.i2l, 1) := by decide +kernel
theorem dX12_qTakes_52 : decode cX12_qTakes 52 = .ok (.putfield 682, 3) := by decide +kernel
theorem dX12_qTakes_55 : decode cX12_qTakes 55 = .ok (.iload_n 1, 1) := by decide +kernel
theorem dX12_qTakes_56 : decode cX12_qTakes 56 = .ok (.iconst 2, 1) := by decide +kernel
theorem dX12_qTakes_57 : decode cX12_qTakes 57 = .ok (.if_icmp .ne 18, 3) := by decide +kernel
theorem dX12_qTakes_60 : decode cX12_qTakes 60 = .ok (.iload 5, 2) := by decide +kernel
theorem dX12_qTakes_62 : decode cX12_qTakes 62 = .ok (.ifCond .eq 13, 3) := by decide +kernel
theorem dX12_qTakes_65 : decode cX12_qTakes 65 = .ok (.aload_n 0, 1) := by decide +kernel
theorem dX12_qTakes_66 : decode cX12_qTakes 66 = .ok (.dup, 1) := by decide +kernel
theorem dX12_qTakes_67 : decode cX12_qTakes 67 = .ok (.getfield 682, 3) := by decide +kernel
theorem dX12_qTakes_70 : decode cX12_qTakes 70 = .ok (.lconst 1, 1) := by decide +kernel
theorem dX12_qTakes_71 : decode cX12_qTakes 71 = .ok (.ladd, 1) := by decide +kernel
theorem dX12_qTakes_72 : decode cX12_qTakes 72 = .ok (.putfield 682, 3) := by decide +kernel
theorem dX12_qTakes_75 : decode cX12_qTakes 75 = .ok (.iload_n 1, 1) := by decide +kernel
theorem dX12_qTakes_76 : decode cX12_qTakes 76 = .ok (.iconst 3, 1) := by decide +kernel
theorem dX12_qTakes_77 : decode cX12_qTakes 77 = .ok (.if_icmp .ne 13, 3) := by decide +kernel
theorem dX12_qTakes_80 : decode cX12_qTakes 80 = .ok (.aload_n 0, 1) := by decide +kernel
theorem dX12_qTakes_81 : decode cX12_qTakes 81 = .ok (.dup, 1) := by decide +kernel
theorem dX12_qTakes_82 : decode cX12_qTakes 82 = .ok (.getfield 682, 3) := by decide +kernel
theorem dX12_qTakes_85 : decode cX12_qTakes 85 = .ok (.lload_n 2, 1) := by decide +kernel
theorem dX12_qTakes_86 : decode cX12_qTakes 86 = .ok (.ladd, 1) := by decide +kernel
theorem dX12_qTakes_87 : decode cX12_qTakes 87 = .ok (.putfield 682, 3) := by decide +kernel
theorem dX12_qTakes_90 : decode cX12_qTakes 90 = .ok (.iload_n 1, 1) := by decide +kernel
theorem dX12_qTakes_91 : decode cX12_qTakes 91 = .ok (.iconst 3, 1) := by decide +kernel
theorem dX12_qTakes_92 : decode cX12_qTakes 92 = .ok (.if_icmp .le 41, 3) := by decide +kernel
theorem dX12_qTakes_95 : decode cX12_qTakes 95 = .ok (.aload_n 0, 1) := by decide +kernel
theorem dX12_qTakes_96 : decode cX12_qTakes 96 = .ok (.getfield 685, 3) := by decide +kernel
theorem dX12_qTakes_99 : decode cX12_qTakes 99 = .ok (.ifCond .ne 29, 3) := by decide +kernel
theorem dX12_qTakes_102 : decode cX12_qTakes 102 = .ok (.iload_n 1, 1) := by decide +kernel
theorem dX12_qTakes_103 : decode cX12_qTakes 103 = .ok (.iconst 4, 1) := by decide +kernel
theorem dX12_qTakes_104 : decode cX12_qTakes 104 = .ok (.if_icmp .ne 15, 3) := by decide +kernel
theorem dX12_qTakes_107 : decode cX12_qTakes 107 = .ok (.lload_n 2, 1) := by decide +kernel
theorem dX12_qTakes_108 : decode cX12_qTakes 108 = .ok (.aload_n 0, 1) := by decide +kernel
theorem dX12_qTakes_109 : decode cX12_qTakes 109 = .ok (.getfield 682, 3) := by decide +kernel
theorem dX12_qTakes_112 : decode cX12_qTakes 112 = .ok (.lcmp, 1) := by decide +kernel
theorem dX12_qTakes_113 : decode cX12_qTakes 113 = .ok (.ifCond .le 20, 3) := by decide +kernel
theorem dX12_qTakes_116 : decode cX12_qTakes 116 = .ok (.goto 12, 3) := by decide +kernel
theorem dX12_qTakes_119 : decode cX12_qTakes 119 = .ok (.lload_n 2, 1) := by decide +kernel
theorem dX12_qTakes_120 : decode cX12_qTakes 120 = .ok (.aload_n 0, 1) := by decide +kernel
theorem dX12_qTakes_121 : decode cX12_qTakes 121 = .ok (.getfield 682, 3) := by decide +kernel
theorem dX12_qTakes_124 : decode cX12_qTakes 124 = .ok (.lcmp, 1) := by decide +kernel
theorem dX12_qTakes_125 : decode cX12_qTakes 125 = .ok (.ifCond .ge 8, 3) := by decide +kernel
theorem dX12_qTakes_128 : decode cX12_qTakes 128 = .ok (.aload_n 0, 1) := by decide +kernel
theorem dX12_qTakes_129 : decode cX12_qTakes 129 = .ok (.lload_n 2, 1) := by decide +kernel
theorem dX12_qTakes_130 : decode cX12_qTakes 130 = .ok (.putfield 682, 3) := by decide +kernel
theorem dX12_qTakes_133 : decode cX12_qTakes 133 = .ok (.aload_n 0, 1) := by decide +kernel
theorem dX12_qTakes_134 : decode cX12_qTakes 134 = .ok (.iconst 0, 1) := by decide +kernel
theorem dX12_qTakes_135 : decode cX12_qTakes 135 = .ok (.putfield 685, 3) := by decide +kernel
theorem dX12_qTakes_138 : decode cX12_qTakes 138 = .ok (.return_, 1) := by decide +kernel
theorem dX12_ask_0 : decode cX12_ask 0 = .ok (.aload_n 0, 1) := by decide +kernel
theorem dX12_ask_1 : decode cX12_ask 1 = .ok (.getfield 383, 3) := by decide +kernel
theorem dX12_ask_4 : decode cX12_ask 4 = .ok (.ifCond .ne 12, 3) := by decide +kernel
theorem dX12_ask_7 : decode cX12_ask 7 = .ok (.aload_n 0, 1) := by decide +kernel
theorem dX12_ask_8 : decode cX12_ask 8 = .ok (.iconst 0, 1) := by decide +kernel
theorem dX12_ask_9 : decode cX12_ask 9 = .ok (.putfield 254, 3) := by decide +kernel
theorem dX12_ask_12 : decode cX12_ask 12 = .ok (.ldc2_w 530, 3) := by decide +kernel
theorem dX12_ask_15 : decode cX12_ask 15 = .ok (.lreturn, 1) := by decide +kernel
theorem dX12_ask_16 : decode cX12_ask 16 = .ok (.aload_n 0, 1) := by decide +kernel
theorem dX12_ask_17 : decode cX12_ask 17 = .ok (.aload_n 0, 1) := by decide +kernel
theorem dX12_ask_18 : decode cX12_ask 18 = .ok (.getfield 254, 3) := by decide +kernel
theorem dX12_ask_21 : decode cX12_ask 21 = .ok (.putfield 266, 3) := by decide +kernel
theorem dX12_ask_24 : decode cX12_ask 24 = .ok (.aload_n 0, 1) := by decide +kernel
theorem dX12_ask_25 : decode cX12_ask 25 = .ok (.iconst 0, 1) := by decide +kernel
theorem dX12_ask_26 : decode cX12_ask 26 = .ok (.putfield 254, 3) := by decide +kernel
theorem dX12_ask_29 : decode cX12_ask 29 = .ok (.aload_n 0, 1) := by decide +kernel
theorem dX12_ask_30 : decode cX12_ask 30 = .ok (.iconst 0, 1) := by decide +kernel
theorem dX12_ask_31 : decode cX12_ask 31 = .ok (.putfield 263, 3) := by decide +kernel
theorem dX12_ask_34 : decode cX12_ask 34 = .ok (.aload_n 0, 1) := by decide +kernel
theorem dX12_ask_35 : decode cX12_ask 35 = .ok (.iconst (-1), 1) := by decide +kernel
theorem dX12_ask_36 : decode cX12_ask 36 = .ok (.putfield 277, 3) := by decide +kernel
theorem dX12_ask_39 : decode cX12_ask 39 = .ok (.aload_n 0, 1) := by decide +kernel
theorem dX12_ask_40 : decode cX12_ask 40 = .ok (.iconst 0, 1) := by decide +kernel
theorem dX12_ask_41 : decode cX12_ask 41 = .ok (.putfield 257, 3) := by decide +kernel
theorem dX12_ask_44 : decode cX12_ask 44 = .ok (.aload_n 0, 1) := by decide +kernel
theorem dX12_ask_45 : decode cX12_ask 45 = .ok (.iconst (-1), 1) := by decide +kernel
theorem dX12_ask_46 : decode cX12_ask 46 = .ok (.putfield 260, 3) := by decide +kernel
theorem dX12_ask_49 : decode cX12_ask 49 = .ok (.aload_n 0, 1) := by decide +kernel
theorem dX12_ask_50 : decode cX12_ask 50 = .ok (.iconst 2, 1) := by decide +kernel
theorem dX12_ask_51 : decode cX12_ask 51 = .ok (.putfield 315, 3) := by decide +kernel
theorem dX12_ask_54 : decode cX12_ask 54 = .ok (.aload_n 0, 1) := by decide +kernel
theorem dX12_ask_55 : decode cX12_ask 55 = .ok (.iconst 0, 1) := by decide +kernel
theorem dX12_ask_56 : decode cX12_ask 56 = .ok (.putfield 334, 3) := by decide +kernel
theorem dX12_ask_59 : decode cX12_ask 59 = .ok (.aload_n 0, 1) := by decide +kernel
theorem dX12_ask_60 : decode cX12_ask 60 = .ok (.iconst 0, 1) := by decide +kernel
theorem dX12_ask_61 : decode cX12_ask 61 = .ok (.putfield 337, 3) := by decide +kernel
theorem dX12_ask_64 : decode cX12_ask 64 = .ok (.aload_n 0, 1) := by decide +kernel
theorem dX12_ask_65 : decode cX12_ask 65 = .ok (.iconst 0, 1) := by decide +kernel
theorem dX12_ask_66 : decode cX12_ask 66 = .ok (.putfield 340, 3) := by decide +kernel
theorem dX12_ask_69 : decode cX12_ask 69 = .ok (.aload_n 0, 1) := by decide +kernel
theorem dX12_ask_70 : decode cX12_ask 70 = .ok (.iconst 0, 1) := by decide +kernel
theorem dX12_ask_71 : decode cX12_ask 71 = .ok (.putfield 343, 3) := by decide +kernel
theorem dX12_ask_74 : decode cX12_ask 74 = .ok (.aload_n 0, 1) := by decide +kernel
theorem dX12_ask_75 : decode cX12_ask 75 = .ok (.invokevirtual 688, 3) := by decide +kernel
theorem dX12_ask_78 : decode cX12_ask 78 = .ok (.istore_n 1, 1) := by decide +kernel
theorem dX12_ask_79 : decode cX12_ask 79 = .ok (.aload_n 0, 1) := by decide +kernel
theorem dX12_ask_80 : decode cX12_ask 80 = .ok (.getfield 257, 3) := by decide +kernel
theorem dX12_ask_83 : decode cX12_ask 83 = .ok (.ifCond .ne 15, 3) := by decide +kernel
theorem dX12_ask_86 : decode cX12_ask 86 = .ok (.iload_n 1, 1) := by decide +kernel
theorem dX12_ask_87 : decode cX12_ask 87 = .ok (.iconst 3, 1) := by decide +kernel
theorem dX12_ask_88 : decode cX12_ask 88 = .ok (.if_icmp .ge 10, 3) := by decide +kernel
theorem dX12_ask_91 : decode cX12_ask 91 = .ok (.aload_n 0, 1) := by decide +kernel
theorem dX12_ask_92 : decode cX12_ask 92 = .ok (.invokevirtual 346, 3) := by decide +kernel
theorem dX12_ask_95 : decode cX12_ask 95 = .ok (.goto 14, 3) := by decide +kernel
theorem dX12_ask_98 : decode cX12_ask 98 = .ok (.aload_n 0, 1) := by decide +kernel
theorem dX12_ask_99 : decode cX12_ask 99 = .ok (.getfield 257, 3) := by decide +kernel
theorem dX12_ask_102 : decode cX12_ask 102 = .ok (.ifCond .ne 7, 3) := by decide +kernel
theorem dX12_ask_105 : decode cX12_ask 105 = .ok (.aload_n 0, 1) := by decide +kernel
theorem dX12_ask_106 : decode cX12_ask 106 = .ok (.invokevirtual 349, 3) := by decide +kernel
theorem dX12_ask_109 : decode cX12_ask 109 = .ok (.aload_n 0, 1) := by decide +kernel
theorem dX12_ask_110 : decode cX12_ask 110 = .ok (.getfield 257, 3) := by decide +kernel
theorem dX12_ask_113 : decode cX12_ask 113 = .ok (.ifCond .ne 20, 3) := by decide +kernel
theorem dX12_ask_116 : decode cX12_ask 116 = .ok (.aload_n 0, 1) := by decide +kernel
theorem dX12_ask_117 : decode cX12_ask 117 = .ok (.invokevirtual 269, 3) := by decide +kernel
theorem dX12_ask_120 : decode cX12_ask 120 = .ok (.iconst (-1), 1) := by decide +kernel
theorem dX12_ask_121 : decode cX12_ask 121 = .ok (.if_icmp .eq 12, 3) := by decide +kernel
theorem dX12_ask_124 : decode cX12_ask 124 = .ok (.aload_n 0, 1) := by decide +kernel
theorem dX12_ask_125 : decode cX12_ask 125 = .ok (.iconst 1, 1) := by decide +kernel
theorem dX12_ask_126 : decode cX12_ask 126 = .ok (.aload_n 0, 1) := by decide +kernel
theorem dX12_ask_127 : decode cX12_ask 127 = .ok (.getfield 263, 3) := by decide +kernel
theorem dX12_ask_130 : decode cX12_ask 130 = .ok (.invokevirtual 287, 3) := by decide +kernel
theorem dX12_ask_133 : decode cX12_ask 133 = .ok (.aload_n 0, 1) := by decide +kernel
theorem dX12_ask_134 : decode cX12_ask 134 = .ok (.aload_n 0, 1) := by decide +kernel
theorem dX12_ask_135 : decode cX12_ask 135 = .ok (.getfield 257, 3) := by decide +kernel
theorem dX12_ask_138 : decode cX12_ask 138 = .ok (.putfield 373, 3) := by decide +kernel
theorem dX12_ask_141 : decode cX12_ask 141 = .ok (.aload_n 0, 1) := by decide +kernel
theorem dX12_ask_142 : decode cX12_ask 142 = .ok (.aload_n 0, 1) := by decide +kernel
theorem dX12_ask_143 : decode cX12_ask 143 = .ok (.getfield 260, 3) := by decide +kernel
theorem dX12_ask_146 : decode cX12_ask 146 = .ok (.putfield 13, 3) := by decide +kernel
theorem dX12_ask_149 : decode cX12_ask 149 = .ok (.aload_n 0, 1) := by decide +kernel
theorem dX12_ask_150 : decode cX12_ask 150 = .ok (.getfield 257, 3) := by decide +kernel
theorem dX12_ask_153 : decode cX12_ask 153 = .ok (.ifCond .eq 7, 3) := by decide +kernel
theorem dX12_ask_156 : decode cX12_ask 156 = .ok (.ldc2_w 530, 3) := by decide +kernel
theorem dX12_ask_159 : decode cX12_ask 159 = .ok (.lreturn, 1) := by decide +kernel
theorem dX12_ask_160 : decode cX12_ask 160 = .ok (.aload_n 0, 1) := by decide +kernel
theorem dX12_ask_161 : decode cX12_ask 161 = .ok (.iload_n 1, 1) := by decide +kernel
theorem dX12_ask_162 : decode cX12_ask 162 = .ok (.iconst 2, 1) := by decide +kernel
theorem dX12_ask_163 : decode cX12_ask 163 = .ok (.if_icmp .ge 9, 3) := by decide +kernel
theorem dX12_ask_166 : decode cX12_ask 166 = .ok (.ldc2_w 564, 3) := by decide +kernel
theorem dX12_ask_169 : decode cX12_ask 169 = .ok (.goto 4, 3) := by decide +kernel
theorem dX12_ask_172 : decode cX12_ask 172 = .ok (.lconst 0, 1) := by decide +kernel
theorem dX12_ask_173 : decode cX12_ask 173 = .ok (.putfield 682, 3) := by decide +kernel
theorem dX12_ask_176 : decode cX12_ask 176 = .ok (.aload_n 0, 1) := by decide +kernel
theorem dX12_ask_177 : decode cX12_ask 177 = .ok (.iconst 1, 1) := by decide +kernel
theorem dX12_ask_178 : decode cX12_ask 178 = .ok (.putfield 685, 3) := by decide +kernel
theorem dX12_ask_181 : decode cX12_ask 181 = .ok (.aload_n 0, 1) := by decide +kernel
theorem dX12_ask_182 : decode cX12_ask 182 = .ok (.iconst 2, 1) := by decide +kernel
theorem dX12_ask_183 : decode cX12_ask 183 = .ok (.putfield 315, 3) := by decide +kernel
theorem dX12_ask_186 : decode cX12_ask 186 = .ok (.iconst 0, 1) := by decide +kernel
theorem dX12_ask_187 : decode cX12_ask 187 = .ok (.istore_n 2, 1) := by decide +kernel
theorem dX12_ask_188 : decode cX12_ask 188 = .ok (.iload_n 2, 1) := by decide +kernel
theorem dX12_ask_189 : decode cX12_ask 189 = .ok (.aload_n 0, 1) := by decide +kernel
theorem dX12_ask_190 : decode cX12_ask 190 = .ok (.invokevirtual 399, 3) := by decide +kernel
theorem dX12_ask_193 : decode cX12_ask 193 = .ok (.if_icmp .ge 25, 3) := by decide +kernel
theorem dX12_ask_196 : decode cX12_ask 196 = .ok (.aload_n 0, 1) := by decide +kernel
theorem dX12_ask_197 : decode cX12_ask 197 = .ok (.iload_n 2, 1) := by decide +kernel
theorem dX12_ask_198 : decode cX12_ask 198 = .ok (.putfield 440, 3) := by decide +kernel
theorem dX12_ask_201 : decode cX12_ask 201 = .ok (.aload_n 0, 1) := by decide +kernel
theorem dX12_ask_202 : decode cX12_ask 202 = .ok (.iload_n 1, 1) := by decide +kernel
theorem dX12_ask_203 : decode cX12_ask 203 = .ok (.aload_n 0, 1) := by decide +kernel
theorem dX12_ask_204 : decode cX12_ask 204 = .ok (.iload_n 2, 1) := by decide +kernel
theorem dX12_ask_205 : decode cX12_ask 205 = .ok (.invokevirtual 691, 3) := by decide +kernel
theorem dX12_ask_208 : decode cX12_ask 208 = .ok (.iload_n 2, 1) := by decide +kernel
theorem dX12_ask_209 : decode cX12_ask 209 = .ok (.invokevirtual 694, 3) := by decide +kernel
theorem dX12_ask_212 : decode cX12_ask 212 = .ok (.iinc 2 1, 3) := by decide +kernel
theorem dX12_ask_215 : decode cX12_ask 215 = .ok (.goto (-27), 3) := by decide +kernel
theorem dX12_ask_218 : decode cX12_ask 218 = .ok (.aload_n 0, 1) := by decide +kernel
theorem dX12_ask_219 : decode cX12_ask 219 = .ok (.getfield 682, 3) := by decide +kernel
theorem dX12_ask_222 : decode cX12_ask 222 = .ok (.lreturn, 1) := by decide +kernel
theorem dX12_refuses_0 : decode cX12_refuses 0 = .ok (.aload_n 0, 1) := by decide +kernel
theorem dX12_refuses_1 : decode cX12_refuses 1 = .ok (.getfield 17, 3) := by decide +kernel
theorem dX12_refuses_4 : decode cX12_refuses 4 = .ok (.iload_n 1, 1) := by decide +kernel
theorem dX12_refuses_5 : decode cX12_refuses 5 = .ok (.dup2, 1) := by decide +kernel
theorem dX12_refuses_6 : decode cX12_refuses 6 = .ok (.iaload, 1) := by decide +kernel
theorem dX12_refuses_7 : decode cX12_refuses 7 = .ok (.iconst 1, 1) := by decide +kernel
theorem dX12_refuses_8 : decode cX12_refuses 8 = .ok (.iadd, 1) := by decide +kernel
theorem dX12_refuses_9 : decode cX12_refuses 9 = .ok (.iastore, 1) := by decide +kernel
theorem dX12_refuses_10 : decode cX12_refuses 10 = .ok (.iconst (-1), 1) := by decide +kernel
theorem dX12_refuses_11 : decode cX12_refuses 11 = .ok (.ireturn, 1) := by decide +kernel
theorem dX12_keeps_0 : decode cX12_keeps 0 = .ok (.aload_n 0, 1) := by decide +kernel
theorem dX12_keeps_1 : decode cX12_keeps 1 = .ok (.aload_n 0, 1) := by decide +kernel
theorem dX12_keeps_2 : decode cX12_keeps 2 = .ok (.getfield 590, 3) := by decide +kernel
theorem dX12_keeps_5 : decode cX12_keeps 5 = .ok (.iconst 1, 1) := by decide +kernel
theorem dX12_keeps_6 : decode cX12_keeps 6 = .ok (.iadd, 1) := by decide +kernel
theorem dX12_keeps_7 : decode cX12_keeps 7 = .ok (.bipush 20, 2) := by decide +kernel
theorem dX12_keeps_9 : decode cX12_keeps 9 = .ok (.irem, 1) := by decide +kernel
theorem dX12_keeps_10 : decode cX12_keeps 10 = .ok (.putfield 590, 3) := by decide +kernel
theorem dX12_keeps_13 : decode cX12_keeps 13 = .ok (.iconst 0, 1) := by decide +kernel
theorem dX12_keeps_14 : decode cX12_keeps 14 = .ok (.istore_n 1, 1) := by decide +kernel
theorem dX12_keeps_15 : decode cX12_keeps 15 = .ok (.iload_n 1, 1) := by decide +kernel
theorem dX12_keeps_16 : decode cX12_keeps 16 = .ok (.sipush 158, 3) := by decide +kernel
theorem dX12_keeps_19 : decode cX12_keeps 19 = .ok (.if_icmp .ge 30, 3) := by decide +kernel
theorem dX12_keeps_22 : decode cX12_keeps 22 = .ok (.aload_n 0, 1) := by decide +kernel
theorem dX12_keeps_23 : decode cX12_keeps 23 = .ok (.getfield 163, 3) := by decide +kernel
theorem dX12_keeps_26 : decode cX12_keeps 26 = .ok (.sipush 158, 3) := by decide +kernel
theorem dX12_keeps_29 : decode cX12_keeps 29 = .ok (.aload_n 0, 1) := by decide +kernel
theorem dX12_keeps_30 : decode cX12_keeps 30 = .ok (.getfield 590, 3) := by decide +kernel
theorem dX12_keeps_33 : decode cX12_keeps 33 = .ok (.imul, 1) := by decide +kernel
theorem dX12_keeps_34 : decode cX12_keeps 34 = .ok (.iload_n 1, 1) := by decide +kernel
theorem dX12_keeps_35 : decode cX12_keeps 35 = .ok (.iadd, 1) := by decide +kernel
theorem dX12_keeps_36 : decode cX12_keeps 36 = .ok (.aload_n 0, 1) := by decide +kernel
theorem dX12_keeps_37 : decode cX12_keeps 37 = .ok (.getfield 127, 3) := by decide +kernel
theorem dX12_keeps_40 : decode cX12_keeps 40 = .ok (.iload_n 1, 1) := by decide +kernel
theorem dX12_keeps_41 : decode cX12_keeps 41 = .ok (.iaload, 1) := by decide +kernel
theorem dX12_keeps_42 : decode cX12_keeps 42 = .ok (.iastore, 1) := by decide +kernel
theorem dX12_keeps_43 : decode cX12_keeps 43 = .ok (.iinc 1 1, 3) := by decide +kernel
theorem dX12_keeps_46 : decode cX12_keeps 46 = .ok (.goto (-31), 3) := by decide +kernel
