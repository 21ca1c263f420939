theorem dX2_extendBasis_59 : decode cX2_extendBasis 59 = .ok (.goto (-54), 3) := by decide +kernel
theorem dX2_extendBasis_62 : decode cX2_extendBasis 62 = .ok (.iload_n 3, 1) := by decide +kernel
theorem dX2_extendBasis_63 : decode cX2_extendBasis 63 = .ok (.ireturn, 1) := by decide +kernel
set_option maxRecDepth 20000 in
theorem ggX2_hiddenBits_X0_clear : GoodIn wsX2_hiddenBits wsX0_clear := goodIn_r _ [5, 6, 26, 27] (by decide +kernel) (by decide +kernel)
set_option maxRecDepth 20000 in
theorem gX2_hiddenBits_X0_clear_n66 : GoodIn wsX2_hiddenBits (wsX0_clear) := ggX2_hiddenBits_X0_clear
set_option maxRecDepth 20000 in
theorem ggX2_hiddenBits_X2_extendBasis : GoodIn wsX2_hiddenBits wsX2_extendBasis := goodIn_r _ [11, 12, 1, 13, 3, 14, 15, 6, 16, 17, 18, 19, 20, 21, 22, 23, 24, 25, 28, 29, 30, 31, 26, 27] (by decide +kernel) (by decide +kernel)
set_option maxRecDepth 20000 in
theorem gX2_hiddenBits_X2_extendBasis : GoodIn wsX2_hiddenBits (wsV RX2 161 RX2 yX2_extendBasis wsX2_extendBasis) := goodIn_app (goodIn_of _ (by decide +kernel)) ggX2_hiddenBits_X2_extendBasis
theorem dX2_hiddenBits_0 : decode cX2_hiddenBits 0 = .ok (.aload_n 0, 1) := by decide +kernel
theorem dX2_hiddenBits_1 : decode cX2_hiddenBits 1 = .ok (.getfield 31, 3) := by decide +kernel
theorem dX2_hiddenBits_4 : decode cX2_hiddenBits 4 = .ok (.invokevirtual 66, 3) := by decide +kernel
theorem dX2_hiddenBits_7 : decode cX2_hiddenBits 7 = .ok (.aload_n 0, 1) := by decide +kernel
theorem dX2_hiddenBits_8 : decode cX2_hiddenBits 8 = .ok (.iconst 1, 1) := by decide +kernel
theorem dX2_hiddenBits_9 : decode cX2_hiddenBits 9 = .ok (.iload_n 1, 1) := by decide +kernel
theorem dX2_hiddenBits_10 : decode cX2_hiddenBits 10 = .ok (.invokevirtual 161, 3) := by decide +kernel
theorem dX2_hiddenBits_13 : decode cX2_hiddenBits 13 = .ok (.pop, 1) := by decide +kernel
theorem dX2_hiddenBits_14 : decode cX2_hiddenBits 14 = .ok (.aload_n 0, 1) := by decide +kernel
theorem dX2_hiddenBits_15 : decode cX2_hiddenBits 15 = .ok (.iconst 0, 1) := by decide +kernel
theorem dX2_hiddenBits_16 : decode cX2_hiddenBits 16 = .ok (.iload_n 1, 1) := by decide +kernel
theorem dX2_hiddenBits_17 : decode cX2_hiddenBits 17 = .ok (.invokevirtual 161, 3) := by decide +kernel
theorem dX2_hiddenBits_20 : decode cX2_hiddenBits 20 = .ok (.ireturn, 1) := by decide +kernel
set_option maxRecDepth 20000 in
theorem ggX2_leakedBits_X2_allPositions : GoodIn wsX2_leakedBits wsX2_allPositions := goodIn_r _ [5, 6, 29, 30, 31, 32, 33, 34, 35, 36, 37] (by decide +kernel) (by decide +kernel)
set_option maxRecDepth 20000 in
theorem gX2_leakedBits_X2_allPositions : GoodIn wsX2_leakedBits (wsV RX2 79 RX2 yX2_allPositions wsX2_allPositions) := goodIn_app (goodIn_of _ (by decide +kernel)) ggX2_leakedBits_X2_allPositions
set_option maxRecDepth 20000 in
theorem ggX2_leakedBits_X2_hiddenBits : GoodIn wsX2_leakedBits wsX2_hiddenBits := goodIn_r _ [10, 11, 12, 13, 14, 15, 16, 17, 18, 19, 4, 20, 6, 21, 22, 23, 24, 25, 26, 27, 28, 29, 30, 31, 32, 33, 38, 39, 34, 35, 36, 37] (by decide +kernel) (by decide +kernel)
set_option maxRecDepth 20000 in
theorem gX2_leakedBits_X2_hiddenBits : GoodIn wsX2_leakedBits (wsV RX2 83 RX2 yX2_hiddenBits wsX2_hiddenBits) := goodIn_app (goodIn_of _ (by decide +kernel)) ggX2_leakedBits_X2_hiddenBits
theorem dX2_leakedBits_0 : decode cX2_leakedBits 0 = .ok (.aload_n 0, 1) := by decide +kernel
theorem dX2_leakedBits_1 : decode cX2_leakedBits 1 = .ok (.aload_n 0, 1) := by decide +kernel
theorem dX2_leakedBits_2 : decode cX2_leakedBits 2 = .ok (.invokevirtual 79, 3) := by decide +kernel
theorem dX2_leakedBits_5 : decode cX2_leakedBits 5 = .ok (.invokevirtual 83, 3) := by decide +kernel
theorem dX2_leakedBits_8 : decode cX2_leakedBits 8 = .ok (.aload_n 0, 1) := by decide +kernel
theorem dX2_leakedBits_9 : decode cX2_leakedBits 9 = .ok (.aload_n 0, 1) := by decide +kernel
theorem dX2_leakedBits_10 : decode cX2_leakedBits 10 = .ok (.invokevirtual 79, 3) := by decide +kernel
theorem dX2_leakedBits_13 : decode cX2_leakedBits 13 = .ok (.iload_n 1, 1) := by decide +kernel
theorem dX2_leakedBits_14 : decode cX2_leakedBits 14 = .ok (.iconst (-1), 1) := by decide +kernel
theorem dX2_leakedBits_15 : decode cX2_leakedBits 15 = .ok (.ixor, 1) := by decide +kernel
theorem dX2_leakedBits_16 : decode cX2_leakedBits 16 = .ok (.iand, 1) := by decide +kernel
theorem dX2_leakedBits_17 : decode cX2_leakedBits 17 = .ok (.invokevirtual 83, 3) := by decide +kernel
theorem dX2_leakedBits_20 : decode cX2_leakedBits 20 = .ok (.isub, 1) := by decide +kernel
theorem dX2_leakedBits_21 : decode cX2_leakedBits 21 = .ok (.ireturn, 1) := by decide +kernel
set_option maxRecDepth 20000 in
theorem ggX2_leakiestSet_X2_allPositions : GoodIn wsX2_leakiestSet wsX2_allPositions := goodIn_r _ [5, 6, 36, 37, 38, 39, 40, 41, 42, 43, 44] (by decide +kernel) (by decide +kernel)
set_option maxRecDepth 20000 in
theorem gX2_leakiestSet_X2_allPositions : GoodIn wsX2_leakiestSet (wsV RX2 79 RX2 yX2_allPositions wsX2_allPositions) := goodIn_app (goodIn_of _ (by decide +kernel)) ggX2_leakiestSet_X2_allPositions
set_option maxRecDepth 20000 in
theorem ggX2_leakiestSet_J6_bitCount_0f7a4 : GoodIn wsX2_leakiestSet wsJ6_bitCount_0f7a4 := goodIn_r _ [10, 11, 12, 13] (by decide +kernel) (by decide +kernel)
set_option maxRecDepth 20000 in
theorem gX2_leakiestSet_J6_bitCount_0f7a4 : GoodIn wsX2_leakiestSet (va_wsS RX2 96 yJ6_bitCount_0f7a4 wsJ6_bitCount_0f7a4) := goodIn_app (goodIn_of _ (by decide +kernel)) ggX2_leakiestSet_J6_bitCount_0f7a4
set_option maxRecDepth 20000 in
theorem ggX2_leakiestSet_X2_hiddenBits : GoodIn wsX2_leakiestSet wsX2_hiddenBits := goodIn_r _ [17, 18, 19, 20, 21, 22, 23, 24, 25, 26, 4, 27, 6, 28, 29, 30, 31, 32, 33, 34, 35, 36, 37, 38, 39, 40, 45, 46, 41, 42, 43, 44] (by decide +kernel) (by decide +kernel)
set_option maxRecDepth 20000 in
theorem gX2_leakiestSet_X2_hiddenBits : GoodIn wsX2_leakiestSet (wsV RX2 83 RX2 yX2_hiddenBits wsX2_hiddenBits) := goodIn_app (goodIn_of _ (by decide +kernel)) ggX2_leakiestSet_X2_hiddenBits
theorem dX2_leakiestSet_0 : decode cX2_leakiestSet 0 = .ok (.aload_n 0, 1) := by decide +kernel
theorem dX2_leakiestSet_1 : decode cX2_leakiestSet 1 = .ok (.invokevirtual 79, 3) := by decide +kernel
theorem dX2_leakiestSet_4 : decode cX2_leakiestSet 4 = .ok (.istore_n 2, 1) := by decide +kernel
theorem dX2_leakiestSet_5 : decode cX2_leakiestSet 5 = .ok (.iconst 0, 1) := by decide +kernel
theorem dX2_leakiestSet_6 : decode cX2_leakiestSet 6 = .ok (.istore_n 3, 1) := by decide +kernel
theorem dX2_leakiestSet_7 : decode cX2_leakiestSet 7 = .ok (.bipush 7, 2) := by decide +kernel
theorem dX2_leakiestSet_9 : decode cX2_leakiestSet 9 = .ok (.istore 4, 2) := by decide +kernel
theorem dX2_leakiestSet_11 : decode cX2_leakiestSet 11 = .ok (.iconst 0, 1) := by decide +kernel
theorem dX2_leakiestSet_12 : decode cX2_leakiestSet 12 = .ok (.istore 5, 2) := by decide +kernel
theorem dX2_leakiestSet_14 : decode cX2_leakiestSet 14 = .ok (.iload 5, 2) := by decide +kernel
theorem dX2_leakiestSet_16 : decode cX2_leakiestSet 16 = .ok (.iload_n 2, 1) := by decide +kernel
theorem dX2_leakiestSet_17 : decode cX2_leakiestSet 17 = .ok (.if_icmp .gt 44, 3) := by decide +kernel
theorem dX2_leakiestSet_20 : decode cX2_leakiestSet 20 = .ok (.iload 5, 2) := by decide +kernel
theorem dX2_leakiestSet_22 : decode cX2_leakiestSet 22 = .ok (.invokestatic 96, 3) := by decide +kernel
theorem dX2_leakiestSet_25 : decode cX2_leakiestSet 25 = .ok (.iload_n 1, 1) := by decide +kernel
theorem dX2_leakiestSet_26 : decode cX2_leakiestSet 26 = .ok (.if_icmp .ne 29, 3) := by decide +kernel
theorem dX2_leakiestSet_29 : decode cX2_leakiestSet 29 = .ok (.aload_n 0, 1) := by decide +kernel
theorem dX2_leakiestSet_30 : decode cX2_leakiestSet 30 = .ok (.iload_n 2, 1) := by decide +kernel
theorem dX2_leakiestSet_31 : decode cX2_leakiestSet 31 = .ok (.iload 5, 2) := by decide +kernel
theorem dX2_leakiestSet_33 : decode cX2_leakiestSet 33 = .ok (.iconst (-1), 1) := by decide +kernel
theorem dX2_leakiestSet_34 : decode cX2_leakiestSet 34 = .ok (.ixor, 1) := by decide +kernel
theorem dX2_leakiestSet_35 : decode cX2_leakiestSet 35 = .ok (.iand, 1) := by decide +kernel
theorem dX2_leakiestSet_36 : decode cX2_leakiestSet 36 = .ok (.invokevirtual 83, 3) := by decide +kernel
theorem dX2_leakiestSet_39 : decode cX2_leakiestSet 39 = .ok (.istore 6, 2) := by decide +kernel
theorem dX2_leakiestSet_41 : decode cX2_leakiestSet 41 = .ok (.iload 6, 2) := by decide +kernel
theorem dX2_leakiestSet_43 : decode cX2_leakiestSet 43 = .ok (.iload 4, 2) := by decide +kernel
theorem dX2_leakiestSet_45 : decode cX2_leakiestSet 45 = .ok (.if_icmp .ge 10, 3) := by decide +kernel
theorem dX2_leakiestSet_48 : decode cX2_leakiestSet 48 = .ok (.iload 6, 2) := by decide +kernel
theorem dX2_leakiestSet_50 : decode cX2_leakiestSet 50 = .ok (.istore 4, 2) := by decide +kernel
theorem dX2_leakiestSet_52 : decode cX2_leakiestSet 52 = .ok (.iload 5, 2) := by decide +kernel
theorem dX2_leakiestSet_54 : decode cX2_leakiestSet 54 = .ok (.istore_n 3, 1) := by decide +kernel
theorem dX2_leakiestSet_55 : decode cX2_leakiestSet 55 = .ok (.iinc 5 1, 3) := by decide +kernel
theorem dX2_leakiestSet_58 : decode cX2_leakiestSet 58 = .ok (.goto (-44), 3) := by decide +kernel
theorem dX2_leakiestSet_61 : decode cX2_leakiestSet 61 = .ok (.iload_n 3, 1) := by decide +kernel
theorem dX2_leakiestSet_62 : decode cX2_leakiestSet 62 = .ok (.ireturn, 1) := by decide +kernel
set_option maxRecDepth 20000 in
theorem ggX2_leastSizeLeaking_X2_allPositions : GoodIn wsX2_leastSizeLeaking wsX2_allPositions := goodIn_r _ [5, 6, 36, 37, 38, 39, 40, 41, 42, 43, 44] (by decide +kernel) (by decide +kernel)
set_option maxRecDepth 20000 in
theorem gX2_leastSizeLeaking_X2_allPositions : GoodIn wsX2_leastSizeLeaking (wsV RX2 79 RX2 yX2_allPositions wsX2_allPositions) := goodIn_app (goodIn_of _ (by decide +kernel)) ggX2_leastSizeLeaking_X2_allPositions
set_option maxRecDepth 20000 in
theorem ggX2_leastSizeLeaking_X2_hiddenBits : GoodIn wsX2_leastSizeLeaking wsX2_hiddenBits := goodIn_r _ [10, 11, 12, 13, 14, 15, 16, 17, 18, 19, 4, 20, 6, 21, 22, 23, 24, 25, 26, 27, 28, 36, 37, 38, 39, 40, 45, 46, 41, 42, 43, 44] (by decide +kernel) (by decide +kernel)
set_option maxRecDepth 20000 in
theorem gX2_leastSizeLeaking_X2_hiddenBits : GoodIn wsX2_leastSizeLeaking (wsV RX2 83 RX2 yX2_hiddenBits wsX2_hiddenBits) := goodIn_app (goodIn_of _ (by decide +kernel)) ggX2_leastSizeLeaking_X2_hiddenBits
set_option maxRecDepth 20000 in
theorem ggX2_leastSizeLeaking_J6_bitCount_0f7a4 : GoodIn wsX2_leastSizeLeaking wsJ6_bitCount_0f7a4 := goodIn_r _ [32, 33, 34, 35] (by decide +kernel) (by decide +kernel)
set_option maxRecDepth 20000 in
theorem gX2_leastSizeLeaking_J6_bitCount_0f7a4 : GoodIn wsX2_leastSizeLeaking (va_wsS RX2 96 yJ6_bitCount_0f7a4 wsJ6_bitCount_0f7a4) := goodIn_app (goodIn_of _ (by decide +kernel)) ggX2_leastSizeLeaking_J6_bitCount_0f7a4
theorem dX2_leastSizeLeaking_0 : decode cX2_leastSizeLeaking 0 = .ok (.aload_n 0, 1) := by decide +kernel
theorem dX2_leastSizeLeaking_1 : decode cX2_leastSizeLeaking 1 = .ok (.invokevirtual 79, 3) := by decide +kernel
theorem dX2_leastSizeLeaking_4 : decode cX2_leastSizeLeaking 4 = .ok (.istore_n 2, 1) := by decide +kernel
theorem dX2_leastSizeLeaking_5 : decode cX2_leastSizeLeaking 5 = .ok (.aload_n 0, 1) := by decide +kernel
theorem dX2_leastSizeLeaking_6 : decode cX2_leastSizeLeaking 6 = .ok (.iload_n 2, 1) := by decide +kernel
theorem dX2_leastSizeLeaking_7 : decode cX2_leastSizeLeaking 7 = .ok (.invokevirtual 83, 3) := by decide +kernel
theorem dX2_leastSizeLeaking_10 : decode cX2_leastSizeLeaking 10 = .ok (.iload_n 1, 1) := by decide +kernel
theorem dX2_leastSizeLeaking_11 : decode cX2_leastSizeLeaking 11 = .ok (.isub, 1) := by decide +kernel
theorem dX2_leastSizeLeaking_12 : decode cX2_leastSizeLeaking 12 = .ok (.istore_n 3, 1) := by decide +kernel
theorem dX2_leastSizeLeaking_13 : decode cX2_leastSizeLeaking 13 = .ok (.bipush 9, 2) := by decide +kernel
theorem dX2_leastSizeLeaking_15 : decode cX2_leastSizeLeaking 15 = .ok (.istore 4, 2) := by decide +kernel
theorem dX2_leastSizeLeaking_17 : decode cX2_leastSizeLeaking 17 = .ok (.iconst 0, 1) := by decide +kernel
theorem dX2_leastSizeLeaking_18 : decode cX2_leastSizeLeaking 18 = .ok (.istore 5, 2) := by decide +kernel
theorem dX2_leastSizeLeaking_20 : decode cX2_leastSizeLeaking 20 = .ok (.iload 5, 2) := by decide +kernel
theorem dX2_leastSizeLeaking_22 : decode cX2_leastSizeLeaking 22 = .ok (.iload_n 2, 1) := by decide +kernel
theorem dX2_leastSizeLeaking_23 : decode cX2_leastSizeLeaking 23 = .ok (.if_icmp .gt 41, 3) := by decide +kernel
theorem dX2_leastSizeLeaking_26 : decode cX2_leastSizeLeaking 26 = .ok (.iload 5, 2) := by decide +kernel
theorem dX2_leastSizeLeaking_28 : decode cX2_leastSizeLeaking 28 = .ok (.invokestatic 96, 3) := by decide +kernel
theorem dX2_leastSizeLeaking_31 : decode cX2_leastSizeLeaking 31 = .ok (.istore 6, 2) := by decide +kernel
theorem dX2_leastSizeLeaking_33 : decode cX2_leastSizeLeaking 33 = .ok (.iload 6, 2) := by decide +kernel
theorem dX2_leastSizeLeaking_35 : decode cX2_leastSizeLeaking 35 = .ok (.iload 4, 2) := by decide +kernel
theorem dX2_leastSizeLeaking_37 : decode cX2_leastSizeLeaking 37 = .ok (.if_icmp .ge 21, 3) := by decide +kernel
theorem dX2_leastSizeLeaking_40 : decode cX2_leastSizeLeaking 40 = .ok (.aload_n 0, 1) := by decide +kernel
theorem dX2_leastSizeLeaking_41 : decode cX2_leastSizeLeaking 41 = .ok (.iload_n 2, 1) := by decide +kernel
theorem dX2_leastSizeLeaking_42 : decode cX2_leastSizeLeaking 42 = .ok (.iload 5, 2) := by decide +kernel
theorem dX2_leastSizeLeaking_44 : decode cX2_leastSizeLeaking 44 = .ok (.iconst (-1), 1) := by decide +kernel
theorem dX2_leastSizeLeaking_45 : decode cX2_leastSizeLeaking 45 = .ok (.ixor, 1) := by decide +kernel
theorem dX2_leastSizeLeaking_46 : decode cX2_leastSizeLeaking 46 = .ok (.iand, 1) := by decide +kernel
theorem dX2_leastSizeLeaking_47 : decode cX2_leastSizeLeaking 47 = .ok (.invokevirtual 83, 3) := by decide +kernel
theorem dX2_leastSizeLeaking_50 : decode cX2_leastSizeLeaking 50 = .ok (.iload_n 3, 1) := by decide +kernel
theorem dX2_leastSizeLeaking_51 : decode cX2_leastSizeLeaking 51 = .ok (.if_icmp .gt 7, 3) := by decide +kernel
theorem dX2_leastSizeLeaking_54 : decode cX2_leastSizeLeaking 54 = .ok (.iload 6, 2) := by decide +kernel
theorem dX2_leastSizeLeaking_56 : decode cX2_leastSizeLeaking 56 = .ok (.istore 4, 2) := by decide +kernel
theorem dX2_leastSizeLeaking_58 : decode cX2_leastSizeLeaking 58 = .ok (.iinc 5 1, 3) := by decide +kernel
theorem dX2_leastSizeLeaking_61 : decode cX2_leastSizeLeaking 61 = .ok (.goto (-41), 3) := by decide +kernel
theorem dX2_leastSizeLeaking_64 : decode cX2_leastSizeLeaking 64 = .ok (.iload 4, 2) := by decide +kernel
theorem dX2_leastSizeLeaking_66 : decode cX2_leastSizeLeaking 66 = .ok (.bipush 8, 2) := by decide +kernel
theorem dX2_leastSizeLeaking_68 : decode cX2_leastSizeLeaking 68 = .ok (.if_icmp .le 7, 3) := by decide +kernel
theorem dX2_leastSizeLeaking_71 : decode cX2_leastSizeLeaking 71 = .ok (.iconst (-1), 1) := by decide +kernel
theorem dX2_leastSizeLeaking_72 : decode cX2_leastSizeLeaking 72 = .ok (.goto 5, 3) := by decide +kernel
theorem dX2_leastSizeLeaking_75 : decode cX2_leastSizeLeaking 75 = .ok (.iload 4, 2) := by decide +kernel
theorem dX2_leastSizeLeaking_77 : decode cX2_leastSizeLeaking 77 = .ok (.ireturn, 1) := by decide +kernel
set_option maxRecDepth 20000 in
theorem ggX2_messagesFitting_X2_allPositions : GoodIn wsX2_messagesFitting wsX2_allPositions := goodIn_r _ [5, 6, 22, 23, 24, 25, 26, 27, 28, 29, 30] (by decide +kernel) (by decide +kernel)
set_option maxRecDepth 20000 in
theorem gX2_messagesFitting_X2_allPositions : GoodIn wsX2_messagesFitting (wsV RX2 79 RX2 yX2_allPositions wsX2_allPositions) := goodIn_app (goodIn_of _ (by decide +kernel)) ggX2_messagesFitting_X2_allPositions
set_option maxRecDepth 20000 in
theorem ggX2_messagesFitting_X2_isCodeword : GoodIn wsX2_messagesFitting wsX2_isCodeword := goodIn_r _ [10, 11, 12, 13, 4, 14, 6, 15, 16, 17, 18, 19, 20, 21, 22, 23, 24, 25, 26, 27, 28, 29, 30] (by decide +kernel) (by decide +kernel)
set_option maxRecDepth 20000 in
theorem gX2_messagesFitting_X2_isCodeword : GoodIn wsX2_messagesFitting (wsV RX2 101 RX2 yX2_isCodeword wsX2_isCodeword) := goodIn_app (goodIn_of _ (by decide +kernel)) ggX2_messagesFitting_X2_isCodeword
set_option maxRecDepth 20000 in
theorem ggX2_messagesFitting_X2_syndrome : GoodIn wsX2_messagesFitting wsX2_syndrome := goodIn_r _ [14, 6, 15, 16, 17, 18, 19, 20, 21, 22, 23, 24, 25, 26, 27, 28, 29, 30] (by decide +kernel) (by decide +kernel)
set_option maxRecDepth 20000 in
theorem gX2_messagesFitting_X2_syndrome : GoodIn wsX2_messagesFitting (wsV RX2 75 RX2 yX2_syndrome wsX2_syndrome) := goodIn_app (goodIn_of _ (by decide +kernel)) ggX2_messagesFitting_X2_syndrome
theorem dX2_messagesFitting_0 : decode cX2_messagesFitting 0 = .ok (.lconst 0, 1) := by decide +kernel
theorem dX2_messagesFitting_1 : decode cX2_messagesFitting 1 = .ok (.lstore_n 3, 1) := by decide +kernel
theorem dX2_messagesFitting_2 : decode cX2_messagesFitting 2 = .ok (.iconst 0, 1) := by decide +kernel
theorem dX2_messagesFitting_3 : decode cX2_messagesFitting 3 = .ok (.istore 5, 2) := by decide +kernel
theorem dX2_messagesFitting_5 : decode cX2_messagesFitting 5 = .ok (.iload 5, 2) := by decide +kernel
theorem dX2_messagesFitting_7 : decode cX2_messagesFitting 7 = .ok (.aload_n 0, 1) := by decide +kernel
theorem dX2_messagesFitting_8 : decode cX2_messagesFitting 8 = .ok (.invokevirtual 79, 3) := by decide +kernel
theorem dX2_messagesFitting_11 : decode cX2_messagesFitting 11 = .ok (.if_icmp .gt 38, 3) := by decide +kernel
theorem dX2_messagesFitting_14 : decode cX2_messagesFitting 14 = .ok (.iload 5, 2) := by decide +kernel
theorem dX2_messagesFitting_16 : decode cX2_messagesFitting 16 = .ok (.iload_n 1, 1) := by decide +kernel
theorem dX2_messagesFitting_17 : decode cX2_messagesFitting 17 = .ok (.iand, 1) := by decide +kernel
theorem dX2_messagesFitting_18 : decode cX2_messagesFitting 18 = .ok (.iload_n 2, 1) := by decide +kernel
theorem dX2_messagesFitting_19 : decode cX2_messagesFitting 19 = .ok (.if_icmp .ne 24, 3) := by decide +kernel
theorem dX2_messagesFitting_22 : decode cX2_messagesFitting 22 = .ok (.aload_n 0, 1) := by decide +kernel
theorem dX2_messagesFitting_23 : decode cX2_messagesFitting 23 = .ok (.iload 5, 2) := by decide +kernel
theorem dX2_messagesFitting_25 : decode cX2_messagesFitting 25 = .ok (.invokevirtual 101, 3) := by decide +kernel
theorem dX2_messagesFitting_28 : decode cX2_messagesFitting 28 = .ok (.ifCond .eq 15, 3) := by decide +kernel
theorem dX2_messagesFitting_31 : decode cX2_messagesFitting 31 = .ok (.lload_n 3, 1) := by decide +kernel
theorem dX2_messagesFitting_32 : decode cX2_messagesFitting 32 = .ok (.lconst 1, 1) := by decide +kernel
theorem dX2_messagesFitting_33 : decode cX2_messagesFitting 33 = .ok (.aload_n 0, 1) := by decide +kernel
theorem dX2_messagesFitting_34 : decode cX2_messagesFitting 34 = .ok (.iload 5, 2) := by decide +kernel
theorem dX2_messagesFitting_36 : decode cX2_messagesFitting 36 = .ok (.iconst 0, 1) := by decide +kernel
theorem dX2_messagesFitting_37 : decode cX2_messagesFitting 37 = .ok (.invokevirtual 75, 3) := by decide +kernel
theorem dX2_messagesFitting_40 : decode cX2_messagesFitting 40 = .ok (.lshl, 1) := by decide +kernel
theorem dX2_messagesFitting_41 : decode cX2_messagesFitting 41 = .ok (.lor, 1) := by decide +kernel
theorem dX2_messagesFitting_42 : decode cX2_messagesFitting 42 = .ok (.lstore_n 3, 1) := by decide +kernel
theorem dX2_messagesFitting_43 : decode cX2_messagesFitting 43 = .ok (.iinc 5 1, 3) := by decide +kernel
theorem dX2_messagesFitting_46 : decode cX2_messagesFitting 46 = .ok (.goto (-41), 3) := by decide +kernel
theorem dX2_messagesFitting_49 : decode cX2_messagesFitting 49 = .ok (.lload_n 3, 1) := by decide +kernel
theorem dX2_messagesFitting_50 : decode cX2_messagesFitting 50 = .ok (.lreturn, 1) := by decide +kernel
theorem dX3_init_0 : decode cX3_init 0 = .ok (.aload_n 0, 1) := by decide +kernel
theorem dX3_init_1 : decode cX3_init 1 = .ok (.invokespecial 1, 3) := by decide +kernel
theorem dX3_init_4 : decode cX3_init 4 = .ok (.aload_n 0, 1) := by decide +kernel
theorem dX3_init_5 : decode cX3_init 5 = .ok (.bipush 14, 2) := by decide +kernel
theorem dX3_init_7 : decode cX3_init 7 = .ok (.newarray .int, 2) := by decide +kernel
theorem dX3_init_9 : decode cX3_init 9 = .ok (.putfield 7, 3) := by decide +kernel
theorem dX3_init_12 : decode cX3_init 12 = .ok (.aload_n 0, 1) := by decide +kernel
theorem dX3_init_13 : decode cX3_init 13 = .ok (.bipush 56, 2) := by decide +kernel
theorem dX3_init_15 : decode cX3_init 15 = .ok (.newarray .int, 2) := by decide +kernel
theorem dX3_init_17 : decode cX3_init 17 = .ok (.putfield 13, 3) := by decide +kernel
theorem dX3_init_20 : decode cX3_init 20 = .ok (.aload_n 0, 1) := by decide +kernel
theorem dX3_init_21 : decode cX3_init 21 = .ok (.iconst 5, 1) := by decide +kernel
theorem dX3_init_22 : decode cX3_init 22 = .ok (.newarray .int, 2) := by decide +kernel
theorem dX3_init_24 : decode cX3_init 24 = .ok (.putfield 16, 3) := by decide +kernel
theorem dX3_init_27 : decode cX3_init 27 = .ok (.aload_n 0, 1) := by decide +kernel
theorem dX3_init_28 : decode cX3_init 28 = .ok (.bipush 6, 2) := by decide +kernel
theorem dX3_init_30 : decode cX3_init 30 = .ok (.newarray .int, 2) := by decide +kernel
theorem dX3_init_32 : decode cX3_init 32 = .ok (.putfield 19, 3) := by decide +kernel
theorem dX3_init_35 : decode cX3_init 35 = .ok (.aload_n 0, 1) := by decide +kernel
theorem dX3_init_36 : decode cX3_init 36 = .ok (.sipush 256, 3) := by decide +kernel
theorem dX3_init_39 : decode cX3_init 39 = .ok (.newarray .int, 2) := by decide +kernel
theorem dX3_init_41 : decode cX3_init 41 = .ok (.putfield 22, 3) := by decide +kernel
theorem dX3_init_44 : decode cX3_init 44 = .ok (.aload_n 0, 1) := by decide +kernel
theorem dX3_init_45 : decode cX3_init 45 = .ok (.bipush 64, 2) := by decide +kernel
theorem dX3_init_47 : decode cX3_init 47 = .ok (.newarray .boolean, 2) := by decide +kernel
theorem dX3_init_49 : decode cX3_init 49 = .ok (.putfield 25, 3) := by decide +kernel
theorem dX3_init_52 : decode cX3_init 52 = .ok (.aload_n 0, 1) := by decide +kernel
theorem dX3_init_53 : decode cX3_init 53 = .ok (.sipush 256, 3) := by decide +kernel
theorem dX3_init_56 : decode cX3_init 56 = .ok (.newarray .int, 2) := by decide +kernel
theorem dX3_init_58 : decode cX3_init 58 = .ok (.putfield 29, 3) := by decide +kernel
theorem dX3_init_61 : decode cX3_init 61 = .ok (.aload_n 0, 1) := by decide +kernel
theorem dX3_init_62 : decode cX3_init 62 = .ok (.getfield 7, 3) := by decide +kernel
theorem dX3_init_65 : decode cX3_init 65 = .ok (.iconst 0, 1) := by decide +kernel
theorem dX3_init_66 : decode cX3_init 66 = .ok (.bipush 6, 2) := by decide +kernel
theorem dX3_init_68 : decode cX3_init 68 = .ok (.iastore, 1) := by decide +kernel
theorem dX3_init_69 : decode cX3_init 69 = .ok (.return_, 1) := by decide +kernel
theorem dX3_within_0 : decode cX3_within 0 = .ok (.iload_n 0, 1) := by decide +kernel
theorem dX3_within_1 : decode cX3_within 1 = .ok (.iload_n 1, 1) := by decide +kernel
theorem dX3_within_2 : decode cX3_within 2 = .ok (.if_icmp .lt 12, 3) := by decide +kernel
theorem dX3_within_5 : decode cX3_within 5 = .ok (.iload_n 0, 1) := by decide +kernel
theorem dX3_within_6 : decode cX3_within 6 = .ok (.iload_n 2, 1) := by decide +kernel
theorem dX3_within_7 : decode cX3_within 7 = .ok (.if_icmp .gt 7, 3) := by decide +kernel
theorem dX3_within_10 : decode cX3_within 10 = .ok (.iconst 1, 1) := by decide +kernel
theorem dX3_within_11 : decode cX3_within 11 = .ok (.goto 4, 3) := by decide +kernel
theorem dX3_within_14 : decode cX3_within 14 = .ok (.iconst 0, 1) := by decide +kernel
theorem dX3_within_15 : decode cX3_within 15 = .ok (.ireturn, 1) := by decide +kernel
theorem dX3_fails_0 : decode cX3_fails 0 = .ok (.aload_n 0, 1) := by decide +kernel
theorem dX3_fails_1 : decode cX3_fails 1 = .ok (.getfield 16, 3) := by decide +kernel
theorem dX3_fails_4 : decode cX3_fails 4 = .ok (.bipush (-2), 2) := by decide +kernel
theorem dX3_fails_6 : decode cX3_fails 6 = .ok (.iload_n 1, 1) := by decide +kernel
theorem dX3_fails_7 : decode cX3_fails 7 = .ok (.isub, 1) := by decide +kernel
theorem dX3_fails_8 : decode cX3_fails 8 = .ok (.dup2, 1) := by decide +kernel
theorem dX3_fails_9 : decode cX3_fails 9 = .ok (.iaload, 1) := by decide +kernel
theorem dX3_fails_10 : decode cX3_fails 10 = .ok (.iconst 1, 1) := by decide +kernel
theorem dX3_fails_11 : decode cX3_fails 11 = .ok (.iadd, 1) := by decide +kernel
theorem dX3_fails_12 : decode cX3_fails 12 = .ok (.iastore, 1) := by decide +kernel
theorem dX3_fails_13 : decode cX3_fails 13 = .ok (.iload_n 1, 1) := by decide +kernel
theorem dX3_fails_14 : decode cX3_fails 14 = .ok (.ireturn, 1) := by decide +kernel
theorem dX3_words_0 : decode cX3_words 0 = .ok (.iconst 1, 1) := by decide +kernel
theorem dX3_words_1 : decode cX3_words 1 = .ok (.aload_n 0, 1) := by decide +kernel
theorem dX3_words_2 : decode cX3_words 2 = .ok (.getfield 7, 3) := by decide +kernel
theorem dX3_words_5 : decode cX3_words 5 = .ok (.iconst 0, 1) := by decide +kernel
theorem dX3_words_6 : decode cX3_words 6 = .ok (.iaload, 1) := by decide +kernel
theorem dX3_words_7 : decode cX3_words 7 = .ok (.ishl, 1) := by decide +kernel
theorem dX3_words_8 : decode cX3_words 8 = .ok (.ireturn, 1) := by decide +kernel
set_option maxRecDepth 20000 in
theorem ggX3_isWord_X3_words : GoodIn wsX3_isWord wsX3_words := goodIn_r _ [5, 6, 10, 11, 12, 13, 14, 15, 16, 17, 18] (by decide +kernel) (by decide +kernel)
set_option maxRecDepth 20000 in
theorem gX3_isWord_X3_words : GoodIn wsX3_isWord (wsV RX3 32 RX3 yX3_words wsX3_words) := goodIn_app (goodIn_of _ (by decide +kernel)) ggX3_isWord_X3_words
set_option maxRecDepth 20000 in
theorem ggX3_isWord_X3_within : GoodIn wsX3_isWord wsX3_within := goodIn_r _ [9] (by decide +kernel) (by decide +kernel)
set_option maxRecDepth 20000 in
theorem gX3_isWord_X3_within : GoodIn wsX3_isWord (va_wsS RX3 36 yX3_within wsX3_within) := goodIn_app (goodIn_of _ (by decide +kernel)) ggX3_isWord_X3_within
theorem dX3_isWord_0 : decode cX3_isWord 0 = .ok (.iload_n 1, 1) := by decide +kernel
theorem dX3_isWord_1 : decode cX3_isWord 1 = .ok (.iconst 0, 1) := by decide +kernel
theorem dX3_isWord_2 : decode cX3_isWord 2 = .ok (.aload_n 0, 1) := by decide +kernel
theorem dX3_isWord_3 : decode cX3_isWord 3 = .ok (.invokevirtual 32, 3) := by decide +kernel
theorem dX3_isWord_6 : decode cX3_isWord 6 = .ok (.iconst 1, 1) := by decide +kernel
theorem dX3_isWord_7 : decode cX3_isWord 7 = .ok (.isub, 1) := by decide +kernel
theorem dX3_isWord_8 : decode cX3_isWord 8 = .ok (.invokestatic 36, 3) := by decide +kernel
theorem dX3_isWord_11 : decode cX3_isWord 11 = .ok (.ireturn, 1) := by decide +kernel
set_option maxRecDepth 20000 in
theorem ggX3_isRow_X3_within : GoodIn wsX3_isRow wsX3_within := goodIn_r _ [5] (by decide +kernel) (by decide +kernel)
set_option maxRecDepth 20000 in
theorem gX3_isRow_X3_within : GoodIn wsX3_isRow (va_wsS RX3 36 yX3_within wsX3_within) := goodIn_app (goodIn_of _ (by decide +kernel)) ggX3_isRow_X3_within
theorem dX3_isRow_0 : decode cX3_isRow 0 = .ok (.iload_n 1, 1) := by decide +kernel
theorem dX3_isRow_1 : decode cX3_isRow 1 = .ok (.iconst 0, 1) := by decide +kernel
theorem dX3_isRow_2 : decode cX3_isRow 2 = .ok (.aload_n 0, 1) := by decide +kernel
theorem dX3_isRow_3 : decode cX3_isRow 3 = .ok (.getfield 7, 3) := by decide +kernel
theorem dX3_isRow_6 : decode cX3_isRow 6 = .ok (.iconst 1, 1) := by decide +kernel
theorem dX3_isRow_7 : decode cX3_isRow 7 = .ok (.iaload, 1) := by decide +kernel
theorem dX3_isRow_8 : decode cX3_isRow 8 = .ok (.iconst 1, 1) := by decide +kernel
theorem dX3_isRow_9 : decode cX3_isRow 9 = .ok (.isub, 1) := by decide +kernel
theorem dX3_isRow_10 : decode cX3_isRow 10 = .ok (.invokestatic 36, 3) := by decide +kernel
theorem dX3_isRow_13 : decode cX3_isRow 13 = .ok (.ireturn, 1) := by decide +kernel
theorem dX3_ones_0 : decode cX3_ones 0 = .ok (.iconst 0, 1) := by decide +kernel
theorem dX3_ones_1 : decode cX3_ones 1 = .ok (.istore_n 1, 1) := by decide +kernel
theorem dX3_ones_2 : decode cX3_ones 2 = .ok (.iconst 0, 1) := by decide +kernel
theorem dX3_ones_3 : decode cX3_ones 3 = .ok (.istore_n 2, 1) := by decide +kernel
theorem dX3_ones_4 : decode cX3_ones 4 = .ok (.iload_n 2, 1) := by decide +kernel
theorem dX3_ones_5 : decode cX3_ones 5 = .ok (.bipush 8, 2) := by decide +kernel
theorem dX3_ones_7 : decode cX3_ones 7 = .ok (.if_icmp .ge 17, 3) := by decide +kernel
theorem dX3_ones_10 : decode cX3_ones 10 = .ok (.iload_n 1, 1) := by decide +kernel
theorem dX3_ones_11 : decode cX3_ones 11 = .ok (.iload_n 0, 1) := by decide +kernel
theorem dX3_ones_12 : decode cX3_ones 12 = .ok (.iload_n 2, 1) := by decide +kernel
theorem dX3_ones_13 : decode cX3_ones 13 = .ok (.ishr, 1) := by decide +kernel
theorem dX3_ones_14 : decode cX3_ones 14 = .ok (.iconst 1, 1) := by decide +kernel
theorem dX3_ones_15 : decode cX3_ones 15 = .ok (.iand, 1) := by decide +kernel
theorem dX3_ones_16 : decode cX3_ones 16 = .ok (.iadd, 1) := by decide +kernel
theorem dX3_ones_17 : decode cX3_ones 17 = .ok (.istore_n 1, 1) := by decide +kernel
theorem dX3_ones_18 : decode cX3_ones 18 = .ok (.iinc 2 1, 3) := by decide +kernel
theorem dX3_ones_21 : decode cX3_ones 21 = .ok (.goto (-17), 3) := by decide +kernel
theorem dX3_ones_24 : decode cX3_ones 24 = .ok (.iload_n 1, 1) := by decide +kernel
theorem dX3_ones_25 : decode cX3_ones 25 = .ok (.ireturn, 1) := by decide +kernel
theorem dX3_saves_0 : decode cX3_saves 0 = .ok (.aload_n 0, 1) := by decide +kernel
theorem dX3_saves_1 : decode cX3_saves 1 = .ok (.getfield 40, 3) := by decide +kernel
theorem dX3_saves_4 : decode cX3_saves 4 = .ok (.iconst 4, 1) := by decide +kernel
theorem dX3_saves_5 : decode cX3_saves 5 = .ok (.if_icmp .ne 42, 3) := by decide +kernel
theorem dX3_saves_8 : decode cX3_saves 8 = .ok (.iconst 0, 1) := by decide +kernel
theorem dX3_saves_9 : decode cX3_saves 9 = .ok (.istore_n 1, 1) := by decide +kernel
theorem dX3_saves_10 : decode cX3_saves 10 = .ok (.iload_n 1, 1) := by decide +kernel
theorem dX3_saves_11 : decode cX3_saves 11 = .ok (.bipush 42, 2) := by decide +kernel
theorem dX3_saves_13 : decode cX3_saves 13 = .ok (.if_icmp .ge 24, 3) := by decide +kernel
theorem dX3_saves_16 : decode cX3_saves 16 = .ok (.aload_n 0, 1) := by decide +kernel
theorem dX3_saves_17 : decode cX3_saves 17 = .ok (.getfield 13, 3) := by decide +kernel
theorem dX3_saves_20 : decode cX3_saves 20 = .ok (.iload_n 1, 1) := by decide +kernel
theorem dX3_saves_21 : decode cX3_saves 21 = .ok (.aload_n 0, 1) := by decide +kernel
theorem dX3_saves_22 : decode cX3_saves 22 = .ok (.getfield 13, 3) := by decide +kernel
theorem dX3_saves_25 : decode cX3_saves 25 = .ok (.iload_n 1, 1) := by decide +kernel
theorem dX3_saves_26 : decode cX3_saves 26 = .ok (.bipush 14, 2) := by decide +kernel
theorem dX3_saves_28 : decode cX3_saves 28 = .ok (.iadd, 1) := by decide +kernel
theorem dX3_saves_29 : decode cX3_saves 29 = .ok (.iaload, 1) := by decide +kernel
theorem dX3_saves_30 : decode cX3_saves 30 = .ok (.iastore, 1) := by decide +kernel
theorem dX3_saves_31 : decode cX3_saves 31 = .ok (.iinc 1 1, 3) := by decide +kernel
theorem dX3_saves_34 : decode cX3_saves 34 = .ok (.goto (-24), 3) := by decide +kernel
theorem dX3_saves_37 : decode cX3_saves 37 = .ok (.aload_n 0, 1) := by decide +kernel
theorem dX3_saves_38 : decode cX3_saves 38 = .ok (.dup, 1) := by decide +kernel
theorem dX3_saves_39 : decode cX3_saves 39 = .ok (.getfield 40, 3) := by decide +kernel
theorem dX3_saves_42 : decode cX3_saves 42 = .ok (.iconst 1, 1) := by decide +kernel
theorem dX3_saves_43 : decode cX3_saves 43 = .ok (.isub, 1) := by decide +kernel
theorem dX3_saves_44 : decode cX3_saves 44 = .ok (.putfield 40, 3) := by decide +kernel
theorem dX3_saves_47 : decode cX3_saves 47 = .ok (.iconst 0, 1) := by decide +kernel
theorem dX3_saves_48 : decode cX3_saves 48 = .ok (.istore_n 1, 1) := by decide +kernel
theorem dX3_saves_49 : decode cX3_saves 49 = .ok (.iload_n 1, 1) := by decide +kernel
theorem dX3_saves_50 : decode cX3_saves 50 = .ok (.bipush 14, 2) := by decide +kernel
theorem dX3_saves_52 : decode cX3_saves 52 = .ok (.if_icmp .ge 29, 3) := by decide +kernel
theorem dX3_saves_55 : decode cX3_saves 55 = .ok (.aload_n 0, 1) := by decide +kernel
theorem dX3_saves_56 : decode cX3_saves 56 = .ok (.getfield 13, 3) := by decide +kernel
theorem dX3_saves_59 : decode cX3_saves 59 = .ok (.bipush 14, 2) := by decide +kernel
theorem dX3_saves_61 : decode cX3_saves 61 = .ok (.aload_n 0, 1) := by decide +kernel
theorem dX3_saves_62 : decode cX3_saves 62 = .ok (.getfield 40, 3) := by decide +kernel
theorem dX3_saves_65 : decode cX3_saves 65 = .ok (.imul, 1) := by decide +kernel
theorem dX3_saves_66 : decode cX3_saves 66 = .ok (.iload_n 1, 1) := by decide +kernel
theorem dX3_saves_67 : decode cX3_saves 67 = .ok (.iadd, 1) := by decide +kernel
theorem dX3_saves_68 : decode cX3_saves 68 = .ok (.aload_n 0, 1) := by decide +kernel
theorem dX3_saves_69 : decode cX3_saves 69 = .ok (.getfield 7, 3) := by decide +kernel
theorem dX3_saves_72 : decode cX3_saves 72 = .ok (.iload_n 1, 1) := by decide +kernel
theorem dX3_saves_73 : decode cX3_saves 73 = .ok (.iaload, 1) := by decide +kernel
theorem dX3_saves_74 : decode cX3_saves 74 = .ok (.iastore, 1) := by decide +kernel
theorem dX3_saves_75 : decode cX3_saves 75 = .ok (.iinc 1 1, 3) := by decide +kernel
theorem dX3_saves_78 : decode cX3_saves 78 = .ok (.goto (-29), 3) := by decide +kernel
theorem dX3_saves_81 : decode cX3_saves 81 = .ok (.aload_n 0, 1) := by decide +kernel
theorem dX3_saves_82 : decode cX3_saves 82 = .ok (.dup, 1) := by decide +kernel
theorem dX3_saves_83 : decode cX3_saves 83 = .ok (.getfield 40, 3) := by decide +kernel
theorem dX3_saves_86 : decode cX3_saves 86 = .ok (.iconst 1, 1) := by decide +kernel
theorem dX3_saves_87 : decode cX3_saves 87 = .ok (.iadd, 1) := by decide +kernel
theorem dX3_saves_88 : decode cX3_saves 88 = .ok (.putfield 40, 3) := by decide +kernel
theorem dX3_saves_91 : decode cX3_saves 91 = .ok (.return_, 1) := by decide +kernel
set_option maxRecDepth 20000 in
theorem ggX3_undo_X3_fails : GoodIn wsX3_undo wsX3_fails := goodIn_r _ [8, 9, 10, 11, 12, 13, 14, 15, 16, 17, 18] (by decide +kernel) (by decide +kernel)
set_option maxRecDepth 20000 in
theorem gX3_undo_X3_fails : GoodIn wsX3_undo (wsV RX3 44 RX3 yX3_fails wsX3_fails) := goodIn_app (goodIn_of _ (by decide +kernel)) ggX3_undo_X3_fails
theorem dX3_undo_0 : decode cX3_undo 0 = .ok (.aload_n 0, 1) := by decide +kernel
theorem dX3_undo_1 : decode cX3_undo 1 = .ok (.getfield 40, 3) := by decide +kernel
theorem dX3_undo_4 : decode cX3_undo 4 = .ok (.ifCond .ne 10, 3) := by decide +kernel
theorem dX3_undo_7 : decode cX3_undo 7 = .ok (.aload_n 0, 1) := by decide +kernel
theorem dX3_undo_8 : decode cX3_undo 8 = .ok (.bipush (-6), 2) := by decide +kernel
theorem dX3_undo_10 : decode cX3_undo 10 = .ok (.invokevirtual 44, 3) := by decide +kernel
theorem dX3_undo_13 : decode cX3_undo 13 = .ok (.ireturn, 1) := by decide +kernel
theorem dX3_undo_14 : decode cX3_undo 14 = .ok (.aload_n 0, 1) := by decide +kernel
theorem dX3_undo_15 : decode cX3_undo 15 = .ok (.dup, 1) := by decide +kernel
theorem dX3_undo_16 : decode cX3_undo 16 = .ok (.getfield 40, 3) := by decide +kernel
theorem dX3_undo_19 : decode cX3_undo 19 = .ok (.iconst 1, 1) := by decide +kernel
theorem dX3_undo_20 : decode cX3_undo 20 = .ok (.isub, 1) := by decide +kernel
theorem dX3_undo_21 : decode cX3_undo 21 = .ok (.putfield 40, 3) := by decide +kernel
theorem dX3_undo_24 : decode cX3_undo 24 = .ok (.iconst 0, 1) := by decide +kernel
theorem dX3_undo_25 : decode cX3_undo 25 = .ok (.istore_n 1, 1) := by decide +kernel
theorem dX3_undo_26 : decode cX3_undo 26 = .ok (.iload_n 1, 1) := by decide +kernel
theorem dX3_undo_27 : decode cX3_undo 27 = .ok (.bipush 14, 2) := by decide +kernel
theorem dX3_undo_29 : decode cX3_undo 29 = .ok (.if_icmp .ge 29, 3) := by decide +kernel
theorem dX3_undo_32 : decode cX3_undo 32 = .ok (.aload_n 0, 1) := by decide +kernel
theorem dX3_undo_33 : decode cX3_undo 33 = .ok (.getfield 7, 3) := by decide +kernel
theorem dX3_undo_36 : decode cX3_undo 36 = .ok (.iload_n 1, 1) := by decide +kernel
theorem dX3_undo_37 : decode cX3_undo 37 = .ok (.aload_n 0, 1) := by decide +kernel
theorem dX3_undo_38 : decode cX3_undo 38 = .ok (.getfield 13, 3) := by decide +kernel
theorem dX3_undo_41 : decode cX3_undo 41 = .ok (.bipush 14, 2) := by decide +kernel
theorem dX3_undo_43 : decode cX3_undo 43 = .ok (.aload_n 0, 1) := by decide +kernel
theorem dX3_undo_44 : decode cX3_undo 44 = .ok (.getfield 40, 3) := by decide +kernel
theorem dX3_undo_47 : decode cX3_undo 47 = .ok (.imul, 1) := by decide +kernel
theorem dX3_undo_48 : decode cX3_undo 48 = .ok (.iload_n 1, 1) := by decide +kernel
theorem dX3_undo_49 : decode cX3_undo 49 = .ok (.iadd, 1) := by decide +kernel
theorem dX3_undo_50 : decode cX3_undo 50 = .ok (.iaload, 1) := by decide +kernel
theorem dX3_undo_51 : decode cX3_undo 51 = .ok (.iastore, 1) := by decide +kernel
theorem dX3_undo_52 : decode cX3_undo 52 = .ok (.iinc 1 1, 3) := by decide +kernel
theorem dX3_undo_55 : decode cX3_undo 55 = .ok (.goto (-29), 3) := by decide +kernel
theorem dX3_undo_58 : decode cX3_undo 58 = .ok (.aload_n 0, 1) := by decide +kernel
theorem dX3_undo_59 : decode cX3_undo 59 = .ok (.getfield 40, 3) := by decide +kernel
theorem dX3_undo_62 : decode cX3_undo 62 = .ok (.ireturn, 1) := by decide +kernel
set_option maxRecDepth 20000 in
theorem ggX3_setLength_X3_within : GoodIn wsX3_setLength wsX3_within := goodIn_r _ [5] (by decide +kernel) (by decide +kernel)
set_option maxRecDepth 20000 in
theorem gX3_setLength_X3_within : GoodIn wsX3_setLength (va_wsS RX3 36 yX3_within wsX3_within) := goodIn_app (goodIn_of _ (by decide +kernel)) ggX3_setLength_X3_within
set_option maxRecDepth 20000 in
theorem ggX3_setLength_X3_fails : GoodIn wsX3_setLength wsX3_fails := goodIn_r _ [9, 10, 17, 18, 19, 20, 21, 22, 23, 24, 25] (by decide +kernel) (by decide +kernel)
set_option maxRecDepth 20000 in
theorem gX3_setLength_X3_fails : GoodIn wsX3_setLength (wsV RX3 44 RX3 yX3_fails wsX3_fails) := goodIn_app (goodIn_of _ (by decide +kernel)) ggX3_setLength_X3_fails
set_option maxRecDepth 20000 in
theorem ggX3_setLength_X3_saves : GoodIn wsX3_setLength wsX3_saves := goodIn_r _ [14, 15, 16, 1, 17, 18, 19, 20, 21, 22, 23, 24, 25] (by decide +kernel) (by decide +kernel)
set_option maxRecDepth 20000 in
theorem gX3_setLength_X3_saves : GoodIn wsX3_setLength (wsV RX3 48 RX3 yX3_saves wsX3_saves) := goodIn_app (goodIn_of _ (by decide +kernel)) ggX3_setLength_X3_saves
theorem dX3_setLength_0 : decode cX3_setLength 0 = .ok (.iload_n 1, 1) := by decide +kernel
theorem dX3_setLength_1 : decode cX3_setLength 1 = .ok (.iconst 1, 1) := by decide +kernel
theorem dX3_setLength_2 : decode cX3_setLength 2 = .ok (.bipush 8, 2) := by decide +kernel
theorem dX3_setLength_4 : decode cX3_setLength 4 = .ok (.invokestatic 36, 3) := by decide +kernel
theorem dX3_setLength_7 : decode cX3_setLength 7 = .ok (.ifCond .ne 10, 3) := by decide +kernel
theorem dX3_setLength_10 : decode cX3_setLength 10 = .ok (.aload_n 0, 1) := by decide +kernel
theorem dX3_setLength_11 : decode cX3_setLength 11 = .ok (.bipush (-2), 2) := by decide +kernel
theorem dX3_setLength_13 : decode cX3_setLength 13 = .ok (.invokevirtual 44, 3) := by decide +kernel
theorem dX3_setLength_16 : decode cX3_setLength 16 = .ok (.ireturn, 1) := by decide +kernel
theorem dX3_setLength_17 : decode cX3_setLength 17 = .ok (.aload_n 0, 1) := by decide +kernel
theorem dX3_setLength_18 : decode cX3_setLength 18 = .ok (.invokevirtual 48, 3) := by decide +kernel
theorem dX3_setLength_21 : decode cX3_setLength 21 = .ok (.aload_n 0, 1) := by decide +kernel
theorem dX3_setLength_22 : decode cX3_setLength 22 = .ok (.getfield 7, 3) := by decide +kernel
theorem dX3_setLength_25 : decode cX3_setLength 25 = .ok (.iconst 0, 1) := by decide +kernel
theorem dX3_setLength_26 : decode cX3_setLength 26 = .ok (.iaload, 1) := by decide +kernel
theorem dX3_setLength_27 : decode cX3_setLength 27 = .ok (.istore_n 2, 1) := by decide +kernel
theorem dX3_setLength_28 : decode cX3_setLength 28 = .ok (.aload_n 0, 1) := by decide +kernel
theorem dX3_setLength_29 : decode cX3_setLength 29 = .ok (.getfield 7, 3) := by decide +kernel
theorem dX3_setLength_32 : decode cX3_setLength 32 = .ok (.iconst 0, 1) := by decide +kernel
theorem dX3_setLength_33 : decode cX3_setLength 33 = .ok (.iload_n 1, 1) := by decide +kernel
theorem dX3_setLength_34 : decode cX3_setLength 34 = .ok (.iastore, 1) := by decide +kernel
theorem dX3_setLength_35 : decode cX3_setLength 35 = .ok (.aload_n 0, 1) := by decide +kernel
theorem dX3_setLength_36 : decode cX3_setLength 36 = .ok (.getfield 7, 3) := by decide +kernel
theorem dX3_setLength_39 : decode cX3_setLength 39 = .ok (.iconst 1, 1) := by decide +kernel
theorem dX3_setLength_40 : decode cX3_setLength 40 = .ok (.iconst 0, 1) := by decide +kernel
theorem dX3_setLength_41 : decode cX3_setLength 41 = .ok (.iastore, 1) := by decide +kernel
theorem dX3_setLength_42 : decode cX3_setLength 42 = .ok (.iload_n 2, 1) := by decide +kernel
theorem dX3_setLength_43 : decode cX3_setLength 43 = .ok (.ireturn, 1) := by decide +kernel
set_option maxRecDepth 20000 in
theorem ggX3_addRow_X3_isWord : GoodIn wsX3_addRow wsX3_isWord := goodIn_r _ [6, 7, 8, 9, 5, 10, 1, 11, 12, 13, 25, 26, 27, 28, 29, 30, 31, 32, 33] (by decide +kernel) (by decide +kernel)
set_option maxRecDepth 20000 in
theorem gX3_addRow_X3_isWord : GoodIn wsX3_addRow (wsV RX3 51 RX3 yX3_isWord wsX3_isWord) := goodIn_app (goodIn_of _ (by decide +kernel)) ggX3_addRow_X3_isWord
set_option maxRecDepth 20000 in
theorem ggX3_addRow_X3_within : GoodIn wsX3_addRow wsX3_within := goodIn_r _ [13] (by decide +kernel) (by decide +kernel)
set_option maxRecDepth 20000 in
theorem gX3_addRow_X3_within : GoodIn wsX3_addRow (va_wsS RX3 36 yX3_within wsX3_within) := goodIn_app (goodIn_of _ (by decide +kernel)) ggX3_addRow_X3_within
set_option maxRecDepth 20000 in
theorem ggX3_addRow_X3_fails : GoodIn wsX3_addRow wsX3_fails := goodIn_r _ [17, 18, 25, 26, 27, 28, 29, 30, 31, 32, 33] (by decide +kernel) (by decide +kernel)
set_option maxRecDepth 20000 in
theorem gX3_addRow_X3_fails : GoodIn wsX3_addRow (wsV RX3 44 RX3 yX3_fails wsX3_fails) := goodIn_app (goodIn_of _ (by decide +kernel)) ggX3_addRow_X3_fails
set_option maxRecDepth 20000 in
theorem ggX3_addRow_X3_saves : GoodIn wsX3_addRow wsX3_saves := goodIn_r _ [22, 23, 24, 1, 25, 26, 27, 28, 29, 30, 31, 32, 33] (by decide +kernel) (by decide +kernel)
set_option maxRecDepth 20000 in
theorem gX3_addRow_X3_saves : GoodIn wsX3_addRow (wsV RX3 48 RX3 yX3_saves wsX3_saves) := goodIn_app (goodIn_of _ (by decide +kernel)) ggX3_addRow_X3_saves
theorem dX3_addRow_0 : decode cX3_addRow 0 = .ok (.aload_n 0, 1) := by decide +kernel
theorem dX3_addRow_1 : decode cX3_addRow 1 = .ok (.iload_n 1, 1) := by decide +kernel
theorem dX3_addRow_2 : decode cX3_addRow 2 = .ok (.invokevirtual 51, 3) := by decide +kernel
theorem dX3_addRow_5 : decode cX3_addRow 5 = .ok (.ifCond .eq 16, 3) := by decide +kernel
theorem dX3_addRow_8 : decode cX3_addRow 8 = .ok (.iload_n 1, 1) := by decide +kernel
theorem dX3_addRow_9 : decode cX3_addRow 9 = .ok (.ifCond .eq 12, 3) := by decide +kernel
theorem dX3_addRow_12 : decode cX3_addRow 12 = .ok (.iload_n 2, 1) := by decide +kernel
theorem dX3_addRow_13 : decode cX3_addRow 13 = .ok (.iconst 0, 1) := by decide +kernel
theorem dX3_addRow_14 : decode cX3_addRow 14 = .ok (.iconst 1, 1) := by decide +kernel
theorem dX3_addRow_15 : decode cX3_addRow 15 = .ok (.invokestatic 36, 3) := by decide +kernel
theorem dX3_addRow_18 : decode cX3_addRow 18 = .ok (.ifCond .ne 10, 3) := by decide +kernel
theorem dX3_addRow_21 : decode cX3_addRow 21 = .ok (.aload_n 0, 1) := by decide +kernel
theorem dX3_addRow_22 : decode cX3_addRow 22 = .ok (.bipush (-2), 2) := by decide +kernel
theorem dX3_addRow_24 : decode cX3_addRow 24 = .ok (.invokevirtual 44, 3) := by decide +kernel
theorem dX3_addRow_27 : decode cX3_addRow 27 = .ok (.ireturn, 1) := by decide +kernel
theorem dX3_addRow_28 : decode cX3_addRow 28 = .ok (.aload_n 0, 1) := by decide +kernel
theorem dX3_addRow_29 : decode cX3_addRow 29 = .ok (.getfield 7, 3) := by decide +kernel
theorem dX3_addRow_32 : decode cX3_addRow 32 = .ok (.iconst 1, 1) := by decide +kernel
theorem dX3_addRow_33 : decode cX3_addRow 33 = .ok (.iaload, 1) := by decide +kernel
theorem dX3_addRow_34 : decode cX3_addRow 34 = .ok (.bipush 6, 2) := by decide +kernel
theorem dX3_addRow_36 : decode cX3_addRow 36 = .ok (.if_icmp .ne 10, 3) := by decide +kernel
theorem dX3_addRow_39 : decode cX3_addRow 39 = .ok (.aload_n 0, 1) := by decide +kernel
theorem dX3_addRow_40 : decode cX3_addRow 40 = .ok (.bipush (-4), 2) := by decide +kernel
theorem dX3_addRow_42 : decode cX3_addRow 42 = .ok (.invokevirtual 44, 3) := by decide +kernel
theorem dX3_addRow_45 : decode cX3_addRow 45 = .ok (.ireturn, 1) := by decide +kernel
theorem dX3_addRow_46 : decode cX3_addRow 46 = .ok (.aload_n 0, 1) := by decide +kernel
theorem dX3_addRow_47 : decode cX3_addRow 47 = .ok (.invokevirtual 48, 3) := by decide +kernel
theorem dX3_addRow_50 : decode cX3_addRow 50 = .ok (.aload_n 0, 1) := by decide +kernel
theorem dX3_addRow_51 : decode cX3_addRow 51 = .ok (.getfield 7, 3) := by decide +kernel
theorem dX3_addRow_54 : decode cX3_addRow 54 = .ok (.iconst 2, 1) := by decide +kernel
theorem dX3_addRow_55 : decode cX3_addRow 55 = .ok (.aload_n 0, 1) := by decide +kernel
theorem dX3_addRow_56 : decode cX3_addRow 56 = .ok (.getfield 7, 3) := by decide +kernel
theorem dX3_addRow_59 : decode cX3_addRow 59 = .ok (.iconst 1, 1) := by decide +kernel
theorem dX3_addRow_60 : decode cX3_addRow 60 = .ok (.iaload, 1) := by decide +kernel
theorem dX3_addRow_61 : decode cX3_addRow 61 = .ok (.iadd, 1) := by decide +kernel
theorem dX3_addRow_62 : decode cX3_addRow 62 = .ok (.iload_n 1, 1) := by decide +kernel
theorem dX3_addRow_63 : decode cX3_addRow 63 = .ok (.iastore, 1) := by decide +kernel
theorem dX3_addRow_64 : decode cX3_addRow 64 = .ok (.aload_n 0, 1) := by decide +kernel
theorem dX3_addRow_65 : decode cX3_addRow 65 = .ok (.getfield 7, 3) := by decide +kernel
theorem dX3_addRow_68 : decode cX3_addRow 68 = .ok (.bipush 8, 2) := by decide +kernel
theorem dX3_addRow_70 : decode cX3_addRow 70 = .ok (.aload_n 0, 1) := by decide +kernel
theorem dX3_addRow_71 : decode cX3_addRow 71 = .ok (.getfield 7, 3) := by decide +kernel
theorem dX3_addRow_74 : decode cX3_addRow 74 = .ok (.iconst 1, 1) := by decide +kernel
theorem dX3_addRow_75 : decode cX3_addRow 75 = .ok (.iaload, 1) := by decide +kernel
theorem dX3_addRow_76 : decode cX3_addRow 76 = .ok (.iadd, 1) := by decide +kernel
theorem dX3_addRow_77 : decode cX3_addRow 77 = .ok (.iload_n 2, 1) := by decide +kernel
theorem dX3_addRow_78 : decode cX3_addRow 78 = .ok (.iastore, 1) := by decide +kernel
theorem dX3_addRow_79 : decode cX3_addRow 79 = .ok (.aload_n 0, 1) := by decide +kernel
theorem dX3_addRow_80 : decode cX3_addRow 80 = .ok (.getfield 7, 3) := by decide +kernel
theorem dX3_addRow_83 : decode cX3_addRow 83 = .ok (.iconst 1, 1) := by decide +kernel
theorem dX3_addRow_84 : decode cX3_addRow 84 = .ok (.dup2, 1) := by decide +kernel
theorem dX3_addRow_85 : decode cX3_addRow 85 = .ok (.iaload, 1) := by decide +kernel
theorem dX3_addRow_86 : decode cX3_addRow 86 = .ok (.iconst 1, 1) := by decide +kernel
theorem dX3_addRow_87 : decode cX3_addRow 87 = .ok (.iadd, 1) := by decide +kernel
theorem dX3_addRow_88 : decode cX3_addRow 88 = .ok (.iastore, 1) := by decide +kernel
theorem dX3_addRow_89 : decode cX3_addRow 89 = .ok (.aload_n 0, 1) := by decide +kernel
theorem dX3_addRow_90 : decode cX3_addRow 90 = .ok (.getfield 7, 3) := by decide +kernel
theorem dX3_addRow_93 : decode cX3_addRow 93 = .ok (.iconst 1, 1) := by decide +kernel
theorem dX3_addRow_94 : decode cX3_addRow 94 = .ok (.iaload, 1) := by decide +kernel
theorem dX3_addRow_95 : decode cX3_addRow 95 = .ok (.iconst 1, 1) := by decide +kernel
theorem dX3_addRow_96 : decode cX3_addRow 96 = .ok (.isub, 1) := by decide +kernel
theorem dX3_addRow_97 : decode cX3_addRow 97 = .ok (.ireturn, 1) := by decide +kernel
theorem dX3_removes_0 : decode cX3_removes 0 = .ok (.aload_n 0, 1) := by decide +kernel
theorem dX3_removes_1 : decode cX3_removes 1 = .ok (.getfield 7, 3) := by decide +kernel
theorem dX3_removes_4 : decode cX3_removes 4 = .ok (.iconst 1, 1) := by decide +kernel
theorem dX3_removes_5 : decode cX3_removes 5 = .ok (.dup2, 1) := by decide +kernel
theorem dX3_removes_6 : decode cX3_removes 6 = .ok (.iaload, 1) := by decide +kernel
theorem dX3_removes_7 : decode cX3_removes 7 = .ok (.iconst 1, 1) := by decide +kernel
theorem dX3_removes_8 : decode cX3_removes 8 = .ok (.isub, 1) := by decide +kernel
theorem dX3_removes_9 : decode cX3_removes 9 = .ok (.iastore, 1) := by decide +kernel
theorem dX3_removes_10 : decode cX3_removes 10 = .ok (.iload_n 1, 1) := by decide +kernel
theorem dX3_removes_11 : decode cX3_removes 11 = .ok (.istore_n 2, 1) := by decide +kernel
theorem dX3_removes_12 : decode cX3_removes 12 = .ok (.iload_n 2, 1) := by decide +kernel
theorem dX3_removes_13 : decode cX3_removes 13 = .ok (.aload_n 0, 1) := by decide +kernel
theorem dX3_removes_14 : decode cX3_removes 14 = .ok (.getfield 7, 3) := by decide +kernel
theorem dX3_removes_17 : decode cX3_removes 17 = .ok (.iconst 1, 1) := by decide +kernel
theorem dX3_removes_18 : decode cX3_removes 18 = .ok (.iaload, 1) := by decide +kernel
theorem dX3_removes_19 : decode cX3_removes 19 = .ok (.if_icmp .ge 47, 3) := by decide +kernel
theorem dX3_removes_22 : decode cX3_removes 22 = .ok (.aload_n 0, 1) := by decide +kernel
theorem dX3_removes_23 : decode cX3_removes 23 = .ok (.getfield 7, 3) := by decide +kernel
theorem dX3_removes_26 : decode cX3_removes 26 = .ok (.iconst 2, 1) := by decide +kernel
theorem dX3_removes_27 : decode cX3_removes 27 = .ok (.iload_n 2, 1) := by decide +kernel
theorem dX3_removes_28 : decode cX3_removes 28 = .ok (.iadd, 1) := by decide +kernel
theorem dX3_removes_29 : decode cX3_removes 29 = .ok (.aload_n 0, 1) := by decide +kernel
theorem dX3_removes_30 : decode cX3_removes 30 = .ok (.getfield 7, 3) := by decide +kernel
theorem dX3_removes_33 : decode cX3_removes 33 = .ok (.iconst 2, 1) := by decide +kernel
theorem dX3_removes_34 : decode cX3_removes 34 = .ok (.iload_n 2, 1) := by decide +kernel
theorem dX3_removes_35 : decode cX3_removes 35 = .ok (.iadd, 1) := by decide +kernel
theorem dX3_removes_36 : decode cX3_removes 36 = .ok (.iconst 1, 1) := by decide +kernel
theorem dX3_removes_37 : decode cX3_removes 37 = .ok (.iadd, 1) := by decide +kernel
theorem dX3_removes_38 : decode cX3_removes 38 = .ok (.iaload, 1) := by decide +kernel
theorem dX3_removes_39 : decode cX3_removes 39 = .ok (.iastore, 1) := by decide +kernel
theorem dX3_removes_40 : decode cX3_removes 40 = .ok (.aload_n 0, 1) := by decide +kernel
theorem dX3_removes_41 : decode cX3_removes 41 = .ok (.getfield 7, 3) := by decide +kernel
theorem dX3_removes_44 : decode cX3_removes 44 = .ok (.bipush 8, 2) := by decide +kernel
theorem dX3_removes_46 : decode cX3_removes 46 = .ok (.iload_n 2, 1) := by decide +kernel
theorem dX3_removes_47 : decode cX3_removes 47 = .ok (.iadd, 1) := by decide +kernel
theorem dX3_removes_48 : decode cX3_removes 48 = .ok (.aload_n 0, 1) := by decide +kernel
theorem dX3_removes_49 : decode cX3_removes 49 = .ok (.getfield 7, 3) := by decide +kernel
theorem dX3_removes_52 : decode cX3_removes 52 = .ok (.bipush 8, 2) := by decide +kernel
theorem dX3_removes_54 : decode cX3_removes 54 = .ok (.iload_n 2, 1) := by decide +kernel
theorem dX3_removes_55 : decode cX3_removes 55 = .ok (.iadd, 1) := by decide +kernel
theorem dX3_removes_56 : decode cX3_removes 56 = .ok (.iconst 1, 1) := by decide +kernel
theorem dX3_removes_57 : decode cX3_removes 57 = .ok (.iadd, 1) := by decide +kernel
theorem dX3_removes_58 : decode cX3_removes 58 = .ok (.iaload, 1) := by decide +kernel
theorem dX3_removes_59 : decode cX3_removes 59 = .ok (.iastore, 1) := by decide +kernel
theorem dX3_removes_60 : decode cX3_removes 60 = .ok (.iinc 2 1, 3) := by decide +kernel
theorem dX3_removes_63 : decode cX3_removes 63 = .ok (.goto (-51), 3) := by decide +kernel
theorem dX3_removes_66 : decode cX3_removes 66 = .ok (.return_, 1) := by decide +kernel
set_option maxRecDepth 20000 in
theorem ggX3_removeRow_X3_isRow : GoodIn wsX3_removeRow wsX3_isRow := goodIn_r _ [6, 1, 7, 8, 5, 9, 25, 26, 27, 28, 29, 30, 31, 32, 33] (by decide +kernel) (by decide +kernel)
set_option maxRecDepth 20000 in
theorem gX3_removeRow_X3_isRow : GoodIn wsX3_removeRow (wsV RX3 55 RX3 yX3_isRow wsX3_isRow) := goodIn_app (goodIn_of _ (by decide +kernel)) ggX3_removeRow_X3_isRow
set_option maxRecDepth 20000 in
theorem ggX3_removeRow_X3_fails : GoodIn wsX3_removeRow wsX3_fails := goodIn_r _ [13, 14, 25, 26, 27, 28, 29, 30, 31, 32, 33] (by decide +kernel) (by decide +kernel)
set_option maxRecDepth 20000 in
theorem gX3_removeRow_X3_fails : GoodIn wsX3_removeRow (wsV RX3 44 RX3 yX3_fails wsX3_fails) := goodIn_app (goodIn_of _ (by decide +kernel)) ggX3_removeRow_X3_fails
set_option maxRecDepth 20000 in
theorem ggX3_removeRow_X3_saves : GoodIn wsX3_removeRow wsX3_saves := goodIn_r _ [18, 19, 20, 1, 25, 26, 27, 28, 29, 30, 31, 32, 33] (by decide +kernel) (by decide +kernel)
set_option maxRecDepth 20000 in
theorem gX3_removeRow_X3_saves : GoodIn wsX3_removeRow (wsV RX3 48 RX3 yX3_saves wsX3_saves) := goodIn_app (goodIn_of _ (by decide +kernel)) ggX3_removeRow_X3_saves
set_option maxRecDepth 20000 in
theorem ggX3_removeRow_X3_removes : GoodIn wsX3_removeRow wsX3_removes := goodIn_r _ [24, 1, 25, 26, 27, 28, 29, 30, 31, 32, 33] (by decide +kernel) (by decide +kernel)
set_option maxRecDepth 20000 in
theorem gX3_removeRow_X3_removes : GoodIn wsX3_removeRow (wsV RX3 58 RX3 yX3_removes wsX3_removes) := goodIn_app (goodIn_of _ (by decide +kernel)) ggX3_removeRow_X3_removes
theorem dX3_removeRow_0 : decode cX3_removeRow 0 = .ok (.aload_n 0, 1) := by decide +kernel
theorem dX3_removeRow_1 : decode cX3_removeRow 1 = .ok (.iload_n 1, 1) := by decide +kernel
theorem dX3_removeRow_2 : decode cX3_removeRow 2 = .ok (.invokevirtual 55, 3) := by decide +kernel
theorem dX3_removeRow_5 : decode cX3_removeRow 5 = .ok (.ifCond .ne 10, 3) := by decide +kernel
theorem dX3_removeRow_8 : decode cX3_removeRow 8 = .ok (.aload_n 0, 1) := by decide +kernel
theorem dX3_removeRow_9 : decode cX3_removeRow 9 = .ok (.bipush (-2), 2) := by decide +kernel
theorem dX3_removeRow_11 : decode cX3_removeRow 11 = .ok (.invokevirtual 44, 3) := by decide +kernel
theorem dX3_removeRow_14 : decode cX3_removeRow 14 = .ok (.ireturn, 1) := by decide +kernel
theorem dX3_removeRow_15 : decode cX3_removeRow 15 = .ok (.aload_n 0, 1) := by decide +kernel
theorem dX3_removeRow_16 : decode cX3_removeRow 16 = .ok (.invokevirtual 48, 3) := by decide +kernel
theorem dX3_removeRow_19 : decode cX3_removeRow 19 = .ok (.aload_n 0, 1) := by decide +kernel
theorem dX3_removeRow_20 : decode cX3_removeRow 20 = .ok (.iload_n 1, 1) := by decide +kernel
theorem dX3_removeRow_21 : decode cX3_removeRow 21 = .ok (.invokevirtual 58, 3) := by decide +kernel
theorem dX3_removeRow_24 : decode cX3_removeRow 24 = .ok (.aload_n 0, 1) := by decide +kernel
theorem dX3_removeRow_25 : decode cX3_removeRow 25 = .ok (.getfield 7, 3) := by decide +kernel
theorem dX3_removeRow_28 : decode cX3_removeRow 28 = .ok (.iconst 1, 1) := by decide +kernel
theorem dX3_removeRow_29 : decode cX3_removeRow 29 = .ok (.iaload, 1) := by decide +kernel
theorem dX3_removeRow_30 : decode cX3_removeRow 30 = .ok (.ireturn, 1) := by decide +kernel
theorem dX3_isDependent_0 : decode cX3_isDependent 0 = .ok (.iconst 1, 1) := by decide +kernel
theorem dX3_isDependent_1 : decode cX3_isDependent 1 = .ok (.istore_n 2, 1) := by decide +kernel
theorem dX3_isDependent_2 : decode cX3_isDependent 2 = .ok (.iload_n 2, 1) := by decide +kernel
theorem dX3_isDependent_3 : decode cX3_isDependent 3 = .ok (.iconst 1, 1) := by decide +kernel
theorem dX3_isDependent_4 : decode cX3_isDependent 4 = .ok (.iload_n 1, 1) := by decide +kernel
theorem dX3_isDependent_5 : decode cX3_isDependent 5 = .ok (.ishl, 1) := by decide +kernel
theorem dX3_isDependent_6 : decode cX3_isDependent 6 = .ok (.if_icmp .ge 66, 3) := by decide +kernel
theorem dX3_isDependent_9 : decode cX3_isDependent 9 = .ok (.iconst 0, 1) := by decide +kernel
theorem dX3_isDependent_10 : decode cX3_isDependent 10 = .ok (.istore_n 3, 1) := by decide +kernel
theorem dX3_isDependent_11 : decode cX3_isDependent 11 = .ok (.iconst 0, 1) := by decide +kernel
theorem dX3_isDependent_12 : decode cX3_isDependent 12 = .ok (.istore 4, 2) := by decide +kernel
theorem dX3_isDependent_14 : decode cX3_isDependent 14 = .ok (.iload 4, 2) := by decide +kernel
theorem dX3_isDependent_16 : decode cX3_isDependent 16 = .ok (.iload_n 1, 1) := by decide +kernel
theorem dX3_isDependent_17 : decode cX3_isDependent 17 = .ok (.if_icmp .ge 35, 3) := by decide +kernel
theorem dX3_isDependent_20 : decode cX3_isDependent 20 = .ok (.iload_n 3, 1) := by decide +kernel
theorem dX3_isDependent_21 : decode cX3_isDependent 21 = .ok (.iload_n 2, 1) := by decide +kernel
theorem dX3_isDependent_22 : decode cX3_isDependent 22 = .ok (.iload 4, 2) := by decide +kernel
theorem dX3_isDependent_24 : decode cX3_isDependent 24 = .ok (.ishr, 1) := by decide +kernel
theorem dX3_isDependent_25 : decode cX3_isDependent 25 = .ok (.iconst 1, 1) := by decide +kernel
theorem dX3_isDependent_26 : decode cX3_isDependent 26 = .ok (.iand, 1) := by decide +kernel
theorem dX3_isDependent_27 : decode cX3_isDependent 27 = .ok (.iconst 1, 1) := by decide +kernel
theorem dX3_isDependent_28 : decode cX3_isDependent 28 = .ok (.if_icmp .ne 15, 3) := by decide +kernel
theorem dX3_isDependent_31 : decode cX3_isDependent 31 = .ok (.aload_n 0, 1) := by decide +kernel
theorem dX3_isDependent_32 : decode cX3_isDependent 32 = .ok (.getfield 7, 3) := by decide +kernel
theorem dX3_isDependent_35 : decode cX3_isDependent 35 = .ok (.iconst 2, 1) := by decide +kernel
theorem dX3_isDependent_36 : decode cX3_isDependent 36 = .ok (.iload 4, 2) := by decide +kernel
theorem dX3_isDependent_38 : decode cX3_isDependent 38 = .ok (.iadd, 1) := by decide +kernel
theorem dX3_isDependent_39 : decode cX3_isDependent 39 = .ok (.iaload, 1) := by decide +kernel
theorem dX3_isDependent_40 : decode cX3_isDependent 40 = .ok (.goto 4, 3) := by decide +kernel
theorem dX3_isDependent_43 : decode cX3_isDependent 43 = .ok (.iconst 0, 1) := by decide +kernel
theorem dX3_isDependent_44 : decode cX3_isDependent 44 = .ok (.ixor, 1) := by decide +kernel
theorem dX3_isDependent_45 : decode cX3_isDependent 45 = .ok (.istore_n 3, 1) := by decide +kernel
theorem dX3_isDependent_46 : decode cX3_isDependent 46 = .ok (.iinc 4 1, 3) := by decide +kernel
theorem dX3_isDependent_49 : decode cX3_isDependent 49 = .ok (.goto (-35), 3) := by decide +kernel
theorem dX3_isDependent_52 : decode cX3_isDependent 52 = .ok (.iload_n 3, 1) := by decide +kernel
theorem dX3_isDependent_53 : decode cX3_isDependent 53 = .ok (.aload_n 0, 1) := by decide +kernel
theorem dX3_isDependent_54 : decode cX3_isDependent 54 = .ok (.getfield 7, 3) := by decide +kernel
theorem dX3_isDependent_57 : decode cX3_isDependent 57 = .ok (.iconst 2, 1) := by decide +kernel
theorem dX3_isDependent_58 : decode cX3_isDependent 58 = .ok (.iload_n 1, 1) := by decide +kernel
theorem dX3_isDependent_59 : decode cX3_isDependent 59 = .ok (.iadd, 1) := by decide +kernel
theorem dX3_isDependent_60 : decode cX3_isDependent 60 = .ok (.iaload, 1) := by decide +kernel
theorem dX3_isDependent_61 : decode cX3_isDependent 61 = .ok (.if_icmp .ne 5, 3) := by decide +kernel
theorem dX3_isDependent_64 : decode cX3_isDependent 64 = .ok (.iconst 1, 1) := by decide +kernel
theorem dX3_isDependent_65 : decode cX3_isDependent 65 = .ok (.ireturn, 1) := by decide +kernel
theorem dX3_isDependent_66 : decode cX3_isDependent 66 = .ok (.iinc 2 1, 3) := by decide +kernel
theorem dX3_isDependent_69 : decode cX3_isDependent 69 = .ok (.goto (-67), 3) := by decide +kernel
theorem dX3_isDependent_72 : decode cX3_isDependent 72 = .ok (.iconst 0, 1) := by decide +kernel
theorem dX3_isDependent_73 : decode cX3_isDependent 73 = .ok (.ireturn, 1) := by decide +kernel
set_option maxRecDepth 20000 in
theorem ggX3_removeDependentRows_X3_saves : GoodIn wsX3_removeDependentRows wsX3_saves := goodIn_r _ [6, 7, 8, 1, 17, 18, 19, 20, 21, 22, 23, 24, 25] (by decide +kernel) (by decide +kernel)
set_option maxRecDepth 20000 in
theorem gX3_removeDependentRows_X3_saves : GoodIn wsX3_removeDependentRows (wsV RX3 48 RX3 yX3_saves wsX3_saves) := goodIn_app (goodIn_of _ (by decide +kernel)) ggX3_removeDependentRows_X3_saves
set_option maxRecDepth 20000 in
theorem ggX3_removeDependentRows_X3_isDependent : GoodIn wsX3_removeDependentRows wsX3_isDependent := goodIn_r _ [12, 1, 17, 18, 19, 20, 21, 22, 23, 24, 25] (by decide +kernel) (by decide +kernel)
set_option maxRecDepth 20000 in
theorem gX3_removeDependentRows_X3_isDependent : GoodIn wsX3_removeDependentRows (wsV RX3 62 RX3 yX3_isDependent wsX3_isDependent) := goodIn_app (goodIn_of _ (by decide +kernel)) ggX3_removeDependentRows_X3_isDependent
set_option maxRecDepth 20000 in
theorem ggX3_removeDependentRows_X3_removes : GoodIn wsX3_removeDependentRows wsX3_removes := goodIn_r _ [16, 1, 17, 18, 19, 20, 21, 22, 23, 24, 25] (by decide +kernel) (by decide +kernel)
set_option maxRecDepth 20000 in
theorem gX3_removeDependentRows_X3_removes : GoodIn wsX3_removeDependentRows (wsV RX3 58 RX3 yX3_removes wsX3_removes) := goodIn_app (goodIn_of _ (by decide +kernel)) ggX3_removeDependentRows_X3_removes
theorem dX3_removeDependentRows_0 : decode cX3_removeDependentRows 0 = .ok (.aload_n 0, 1) := by decide +kernel
theorem dX3_removeDependentRows_1 : decode cX3_removeDependentRows 1 = .ok (.invokevirtual 48, 3) := by decide +kernel
theorem dX3_removeDependentRows_4 : decode cX3_removeDependentRows 4 = .ok (.aload_n 0, 1) := by decide +kernel
theorem dX3_removeDependentRows_5 : decode cX3_removeDependentRows 5 = .ok (.getfield 7, 3) := by decide +kernel
theorem dX3_removeDependentRows_8 : decode cX3_removeDependentRows 8 = .ok (.iconst 1, 1) := by decide +kernel
theorem dX3_removeDependentRows_9 : decode cX3_removeDependentRows 9 = .ok (.iaload, 1) := by decide +kernel
theorem dX3_removeDependentRows_10 : decode cX3_removeDependentRows 10 = .ok (.istore_n 1, 1) := by decide +kernel
theorem dX3_removeDependentRows_11 : decode cX3_removeDependentRows 11 = .ok (.iconst 0, 1) := by decide +kernel
theorem dX3_removeDependentRows_12 : decode cX3_removeDependentRows 12 = .ok (.istore_n 2, 1) := by decide +kernel
theorem dX3_removeDependentRows_13 : decode cX3_removeDependentRows 13 = .ok (.iload_n 2, 1) := by decide +kernel
theorem dX3_removeDependentRows_14 : decode cX3_removeDependentRows 14 = .ok (.aload_n 0, 1) := by decide +kernel
theorem dX3_removeDependentRows_15 : decode cX3_removeDependentRows 15 = .ok (.getfield 7, 3) := by decide +kernel
theorem dX3_removeDependentRows_18 : decode cX3_removeDependentRows 18 = .ok (.iconst 1, 1) := by decide +kernel
theorem dX3_removeDependentRows_19 : decode cX3_removeDependentRows 19 = .ok (.iaload, 1) := by decide +kernel
theorem dX3_removeDependentRows_20 : decode cX3_removeDependentRows 20 = .ok (.if_icmp .ge 25, 3) := by decide +kernel
theorem dX3_removeDependentRows_23 : decode cX3_removeDependentRows 23 = .ok (.aload_n 0, 1) := by decide +kernel
theorem dX3_removeDependentRows_24 : decode cX3_removeDependentRows 24 = .ok (.iload_n 2, 1) := by decide +kernel
theorem dX3_removeDependentRows_25 : decode cX3_removeDependentRows 25 = .ok (.invokevirtual 62, 3) := by decide +kernel
theorem dX3_removeDependentRows_28 : decode cX3_removeDependentRows 28 = .ok (.ifCond .eq 11, 3) := by decide +kernel
theorem dX3_removeDependentRows_31 : decode cX3_removeDependentRows 31 = .ok (.aload_n 0, 1) := by decide +kernel
theorem dX3_removeDependentRows_32 : decode cX3_removeDependentRows 32 = .ok (.iload_n 2, 1) := by decide +kernel
theorem dX3_removeDependentRows_33 : decode cX3_removeDependentRows 33 = .ok (.invokevirtual 58, 3) := by decide +kernel
theorem dX3_removeDependentRows_36 : decode cX3_removeDependentRows 36 = .ok (.goto (-23), 3) := by decide +kernel
theorem dX3_removeDependentRows_39 : decode cX3_removeDependentRows 39 = .ok (.iinc 2 1, 3) := by decide +kernel
theorem dX3_removeDependentRows_42 : decode cX3_removeDependentRows 42 = .ok (.goto (-29), 3) := by decide +kernel
theorem dX3_removeDependentRows_45 : decode cX3_removeDependentRows 45 = .ok (.iload_n 1, 1) := by decide +kernel
theorem dX3_removeDependentRows_46 : decode cX3_removeDependentRows 46 = .ok (.aload_n 0, 1) := by decide +kernel
theorem dX3_removeDependentRows_47 : decode cX3_removeDependentRows 47 = .ok (.getfield 7, 3) := by decide +kernel
theorem dX3_removeDependentRows_50 : decode cX3_removeDependentRows 50 = .ok (.iconst 1, 1) := by decide +kernel
theorem dX3_removeDependentRows_51 : decode cX3_removeDependentRows 51 = .ok (.iaload, 1) := by decide +kernel
theorem dX3_removeDependentRows_52 : decode cX3_removeDependentRows 52 = .ok (.isub, 1) := by decide +kernel
theorem dX3_removeDependentRows_53 : decode cX3_removeDependentRows 53 = .ok (.ireturn, 1) := by decide +kernel
set_option maxRecDepth 20000 in
theorem ggX3_row_X3_isRow : GoodIn wsX3_row wsX3_isRow := goodIn_r _ [6, 1, 7, 8, 5, 9, 15, 16, 17, 18, 19, 20, 21, 22, 23] (by decide +kernel) (by decide +kernel)
set_option maxRecDepth 20000 in
theorem gX3_row_X3_isRow : GoodIn wsX3_row (wsV RX3 55 RX3 yX3_isRow wsX3_isRow) := goodIn_app (goodIn_of _ (by decide +kernel)) ggX3_row_X3_isRow
set_option maxRecDepth 20000 in
theorem ggX3_row_X3_fails : GoodIn wsX3_row wsX3_fails := goodIn_r _ [13, 14, 15, 16, 17, 18, 19, 20, 21, 22, 23] (by decide +kernel) (by decide +kernel)
set_option maxRecDepth 20000 in
theorem gX3_row_X3_fails : GoodIn wsX3_row (wsV RX3 44 RX3 yX3_fails wsX3_fails) := goodIn_app (goodIn_of _ (by decide +kernel)) ggX3_row_X3_fails
theorem dX3_row_0 : decode cX3_row 0 = .ok (.aload_n 0, 1) := by decide +kernel
theorem dX3_row_1 : decode cX3_row 1 = .ok (.iload_n 1, 1) := by decide +kernel
theorem dX3_row_2 : decode cX3_row 2 = .ok (.invokevirtual 55, 3) := by decide +kernel
theorem dX3_row_5 : decode cX3_row 5 = .ok (.ifCond .eq 14, 3) := by decide +kernel
theorem dX3_row_8 : decode cX3_row 8 = .ok (.aload_n 0, 1) := by decide +kernel
theorem dX3_row_9 : decode cX3_row 9 = .ok (.getfield 7, 3) := by decide +kernel
theorem dX3_row_12 : decode cX3_row 12 = .ok (.iconst 2, 1) := by decide +kernel
theorem dX3_row_13 : decode cX3_row 13 = .ok (.iload_n 1, 1) := by decide +kernel
theorem dX3_row_14 : decode cX3_row 14 = .ok (.iadd, 1) := by decide +kernel
theorem dX3_row_15 : decode cX3_row 15 = .ok (.iaload, 1) := by decide +kernel
theorem dX3_row_16 : decode cX3_row 16 = .ok (.goto 9, 3) := by decide +kernel
theorem dX3_row_19 : decode cX3_row 19 = .ok (.aload_n 0, 1) := by decide +kernel
theorem dX3_row_20 : decode cX3_row 20 = .ok (.bipush (-2), 2) := by decide +kernel
theorem dX3_row_22 : decode cX3_row 22 = .ok (.invokevirtual 44, 3) := by decide +kernel
theorem dX3_row_25 : decode cX3_row 25 = .ok (.ireturn, 1) := by decide +kernel
set_option maxRecDepth 20000 in
theorem ggX3_isCheck_X3_isRow : GoodIn wsX3_isCheck wsX3_isRow := goodIn_r _ [6, 1, 7, 8, 5, 9, 15, 16, 17, 18, 19, 20, 21, 22, 23] (by decide +kernel) (by decide +kernel)
set_option maxRecDepth 20000 in
theorem gX3_isCheck_X3_isRow : GoodIn wsX3_isCheck (wsV RX3 55 RX3 yX3_isRow wsX3_isRow) := goodIn_app (goodIn_of _ (by decide +kernel)) ggX3_isCheck_X3_isRow
set_option maxRecDepth 20000 in
theorem ggX3_isCheck_X3_fails : GoodIn wsX3_isCheck wsX3_fails := goodIn_r _ [13, 14, 15, 16, 17, 18, 19, 20, 21, 22, 23] (by decide +kernel) (by decide +kernel)
set_option maxRecDepth 20000 in
theorem gX3_isCheck_X3_fails : GoodIn wsX3_isCheck (wsV RX3 44 RX3 yX3_fails wsX3_fails) := goodIn_app (goodIn_of _ (by decide +kernel)) ggX3_isCheck_X3_fails
theorem dX3_isCheck_0 : decode cX3_isCheck 0 = .ok (.aload_n 0, 1) := by decide +kernel
theorem dX3_isCheck_1 : decode cX3_isCheck 1 = .ok (.iload_n 1, 1) := by decide +kernel
theorem dX3_isCheck_2 : decode cX3_isCheck 2 = .ok (.invokevirtual 55, 3) := by decide +kernel
theorem dX3_isCheck_5 : decode cX3_isCheck 5 = .ok (.ifCond .eq 15, 3) := by decide +kernel
theorem dX3_isCheck_8 : decode cX3_isCheck 8 = .ok (.aload_n 0, 1) := by decide +kernel
theorem dX3_isCheck_9 : decode cX3_isCheck 9 = .ok (.getfield 7, 3) := by decide +kernel
theorem dX3_isCheck_12 : decode cX3_isCheck 12 = .ok (.bipush 8, 2) := by decide +kernel
theorem dX3_isCheck_14 : decode cX3_isCheck 14 = .ok (.iload_n 1, 1) := by decide +kernel
theorem dX3_isCheck_15 : decode cX3_isCheck 15 = .ok (.iadd, 1) := by decide +kernel
theorem dX3_isCheck_16 : decode cX3_isCheck 16 = .ok (.iaload, 1) := by decide +kernel
theorem dX3_isCheck_17 : decode cX3_isCheck 17 = .ok (.goto 9, 3) := by decide +kernel
theorem dX3_isCheck_20 : decode cX3_isCheck 20 = .ok (.aload_n 0, 1) := by decide +kernel
theorem dX3_isCheck_21 : decode cX3_isCheck 21 = .ok (.bipush (-2), 2) := by decide +kernel
theorem dX3_isCheck_23 : decode cX3_isCheck 23 = .ok (.invokevirtual 44, 3) := by decide +kernel
theorem dX3_isCheck_26 : decode cX3_isCheck 26 = .ok (.ireturn, 1) := by decide +kernel
theorem dX3_rankOf_0 : decode cX3_rankOf 0 = .ok (.iconst 0, 1) := by decide +kernel
theorem dX3_rankOf_1 : decode cX3_rankOf 1 = .ok (.istore_n 3, 1) := by decide +kernel
theorem dX3_rankOf_2 : decode cX3_rankOf 2 = .ok (.iload_n 3, 1) := by decide +kernel
theorem dX3_rankOf_3 : decode cX3_rankOf 3 = .ok (.aload_n 0, 1) := by decide +kernel
theorem dX3_rankOf_4 : decode cX3_rankOf 4 = .ok (.getfield 7, 3) := by decide +kernel
theorem dX3_rankOf_7 : decode cX3_rankOf 7 = .ok (.iconst 1, 1) := by decide +kernel
theorem dX3_rankOf_8 : decode cX3_rankOf 8 = .ok (.iaload, 1) := by decide +kernel
theorem dX3_rankOf_9 : decode cX3_rankOf 9 = .ok (.if_icmp .ge 47, 3) := by decide +kernel
theorem dX3_rankOf_12 : decode cX3_rankOf 12 = .ok (.aload_n 0, 1) := by decide +kernel
theorem dX3_rankOf_13 : decode cX3_rankOf 13 = .ok (.getfield 19, 3) := by decide +kernel
theorem dX3_rankOf_16 : decode cX3_rankOf 16 = .ok (.iload_n 3, 1) := by decide +kernel
theorem dX3_rankOf_17 : decode cX3_rankOf 17 = .ok (.iload_n 1, 1) := by decide +kernel
theorem dX3_rankOf_18 : decode cX3_rankOf 18 = .ok (.iconst 2, 1) := by decide +kernel
theorem dX3_rankOf_19 : decode cX3_rankOf 19 = .ok (.if_icmp .eq 16, 3) := by decide +kernel
theorem dX3_rankOf_22 : decode cX3_rankOf 22 = .ok (.aload_n 0, 1) := by decide +kernel
theorem dX3_rankOf_23 : decode cX3_rankOf 23 = .ok (.getfield 7, 3) := by decide +kernel
theorem dX3_rankOf_26 : decode cX3_rankOf 26 = .ok (.bipush 8, 2) := by decide +kernel
theorem dX3_rankOf_28 : decode cX3_rankOf 28 = .ok (.iload_n 3, 1) := by decide +kernel
theorem dX3_rankOf_29 : decode cX3_rankOf 29 = .ok (.iadd, 1) := by decide +kernel
theorem dX3_rankOf_30 : decode cX3_rankOf 30 = .ok (.iaload, 1) := by decide +kernel
theorem dX3_rankOf_31 : decode cX3_rankOf 31 = .ok (.iload_n 1, 1) := by decide +kernel
theorem dX3_rankOf_32 : decode cX3_rankOf 32 = .ok (.if_icmp .ne 16, 3) := by decide +kernel
theorem dX3_rankOf_35 : decode cX3_rankOf 35 = .ok (.aload_n 0, 1) := by decide +kernel
theorem dX3_rankOf_36 : decode cX3_rankOf 36 = .ok (.getfield 7, 3) := by decide +kernel
theorem dX3_rankOf_39 : decode cX3_rankOf 39 = .ok (.iconst 2, 1) := by decide +kernel
theorem dX3_rankOf_40 : decode cX3_rankOf 40 = .ok (.iload_n 3, 1) := by decide +kernel
theorem dX3_rankOf_41 : decode cX3_rankOf 41 = .ok (.iadd, 1) := by decide +kernel
theorem dX3_rankOf_42 : decode cX3_rankOf 42 = .ok (.iaload, 1) := by decide +kernel
theorem dX3_rankOf_43 : decode cX3_rankOf 43 = .ok (.iload_n 2, 1) := by decide +kernel
theorem dX3_rankOf_44 : decode cX3_rankOf 44 = .ok (.iand, 1) := by decide +kernel
theorem dX3_rankOf_45 : decode cX3_rankOf 45 = .ok (.goto 4, 3) := by decide +kernel
theorem dX3_rankOf_48 : decode cX3_rankOf 48 = .ok (.iconst 0, 1) := by decide +kernel
theorem dX3_rankOf_49 : decode cX3_rankOf 49 = .ok (.iastore, 1) := by decide +kernel
theorem dX3_rankOf_50 : decode cX3_rankOf 50 = .ok (.iinc 3 1, 3) := by decide +kernel
theorem dX3_rankOf_53 : decode cX3_rankOf 53 = .ok (.goto (-51), 3) := by decide +kernel
theorem dX3_rankOf_56 : decode cX3_rankOf 56 = .ok (.iconst 0, 1) := by decide +kernel
theorem dX3_rankOf_57 : decode cX3_rankOf 57 = .ok (.istore_n 3, 1) := by decide +kernel
theorem dX3_rankOf_58 : decode cX3_rankOf 58 = .ok (.iconst 0, 1) := by decide +kernel
theorem dX3_rankOf_59 : decode cX3_rankOf 59 = .ok (.istore 4, 2) := by decide +kernel
theorem dX3_rankOf_61 : decode cX3_rankOf 61 = .ok (.iload 4, 2) := by decide +kernel
theorem dX3_rankOf_63 : decode cX3_rankOf 63 = .ok (.aload_n 0, 1) := by decide +kernel
theorem dX3_rankOf_64 : decode cX3_rankOf 64 = .ok (.getfield 7, 3) := by decide +kernel
theorem dX3_rankOf_67 : decode cX3_rankOf 67 = .ok (.iconst 1, 1) := by decide +kernel
theorem dX3_rankOf_68 : decode cX3_rankOf 68 = .ok (.iaload, 1) := by decide +kernel
theorem dX3_rankOf_69 : decode cX3_rankOf 69 = .ok (.if_icmp .ge 97, 3) := by decide +kernel
theorem dX3_rankOf_72 : decode cX3_rankOf 72 = .ok (.aload_n 0, 1) := by decide +kernel
theorem dX3_rankOf_73 : decode cX3_rankOf 73 = .ok (.getfield 19, 3) := by decide +kernel
theorem dX3_rankOf_76 : decode cX3_rankOf 76 = .ok (.iload 4, 2) := by decide +kernel
theorem dX3_rankOf_78 : decode cX3_rankOf 78 = .ok (.iaload, 1) := by decide +kernel
theorem dX3_rankOf_79 : decode cX3_rankOf 79 = .ok (.ifCond .eq 81, 3) := by decide +kernel
theorem dX3_rankOf_82 : decode cX3_rankOf 82 = .ok (.iinc 3 1, 3) := by decide +kernel
theorem dX3_rankOf_85 : decode cX3_rankOf 85 = .ok (.aload_n 0, 1) := by decide +kernel
theorem dX3_rankOf_86 : decode cX3_rankOf 86 = .ok (.getfield 19, 3) := by decide +kernel
theorem dX3_rankOf_89 : decode cX3_rankOf 89 = .ok (.iload 4, 2) := by decide +kernel
theorem dX3_rankOf_91 : decode cX3_rankOf 91 = .ok (.iaload, 1) := by decide +kernel
theorem dX3_rankOf_92 : decode cX3_rankOf 92 = .ok (.aload_n 0, 1) := by decide +kernel
theorem dX3_rankOf_93 : decode cX3_rankOf 93 = .ok (.getfield 19, 3) := by decide +kernel
theorem dX3_rankOf_96 : decode cX3_rankOf 96 = .ok (.iload 4, 2) := by decide +kernel
theorem dX3_rankOf_98 : decode cX3_rankOf 98 = .ok (.iaload, 1) := by decide +kernel
theorem dX3_rankOf_99 : decode cX3_rankOf 99 = .ok (.ineg, 1) := by decide +kernel
theorem dX3_rankOf_100 : decode cX3_rankOf 100 = .ok (.iand, 1) := by decide +kernel
theorem dX3_rankOf_101 : decode cX3_rankOf 101 = .ok (.istore 5, 2) := by decide +kernel
theorem dX3_rankOf_103 : decode cX3_rankOf 103 = .ok (.iload 4, 2) := by decide +kernel
theorem dX3_rankOf_105 : decode cX3_rankOf 105 = .ok (.iconst 1, 1) := by decide +kernel
theorem dX3_rankOf_106 : decode cX3_rankOf 106 = .ok (.iadd, 1) := by decide +kernel
theorem dX3_rankOf_107 : decode cX3_rankOf 107 = .ok (.istore 6, 2) := by decide +kernel
