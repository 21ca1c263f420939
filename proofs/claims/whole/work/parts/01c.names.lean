theorem dX2_worstSet_20 : decode cX2_worstSet 20 = .ok (.ireturn, 1) := by decide +kernel
set_option maxRecDepth 20000 in
theorem ggX2_threshold_X2_leastSizeLeaking : GoodIn wsX2_threshold wsX2_leastSizeLeaking := goodIn_r _ [6, 7, 8, 9, 5, 10, 1, 11, 12, 13, 14, 15, 16, 17, 18, 19, 20, 21, 22, 23, 24, 25, 26, 27, 28, 29, 30, 31, 32, 33, 34, 35, 36, 37, 38, 39, 40, 41, 42, 43, 44, 45, 46, 47, 48, 49, 50] (by decide +kernel) (by decide +kernel)
set_option maxRecDepth 20000 in
theorem gX2_threshold_X2_leastSizeLeaking : GoodIn wsX2_threshold (wsV RX2 116 RX2 yX2_leastSizeLeaking wsX2_leastSizeLeaking) := goodIn_app (goodIn_of _ (by decide +kernel)) ggX2_threshold_X2_leastSizeLeaking
theorem dX2_threshold_0 : decode cX2_threshold 0 = .ok (.aload_n 0, 1) := by decide +kernel
theorem dX2_threshold_1 : decode cX2_threshold 1 = .ok (.iconst 1, 1) := by decide +kernel
theorem dX2_threshold_2 : decode cX2_threshold 2 = .ok (.invokevirtual 116, 3) := by decide +kernel
theorem dX2_threshold_5 : decode cX2_threshold 5 = .ok (.istore_n 1, 1) := by decide +kernel
theorem dX2_threshold_6 : decode cX2_threshold 6 = .ok (.iload_n 1, 1) := by decide +kernel
theorem dX2_threshold_7 : decode cX2_threshold 7 = .ok (.iconst (-1), 1) := by decide +kernel
theorem dX2_threshold_8 : decode cX2_threshold 8 = .ok (.if_icmp .ne 13, 3) := by decide +kernel
theorem dX2_threshold_11 : decode cX2_threshold 11 = .ok (.aload_n 0, 1) := by decide +kernel
theorem dX2_threshold_12 : decode cX2_threshold 12 = .ok (.getfield 12, 3) := by decide +kernel
theorem dX2_threshold_15 : decode cX2_threshold 15 = .ok (.getfield 42, 3) := by decide +kernel
theorem dX2_threshold_18 : decode cX2_threshold 18 = .ok (.goto 6, 3) := by decide +kernel
theorem dX2_threshold_21 : decode cX2_threshold 21 = .ok (.iload_n 1, 1) := by decide +kernel
theorem dX2_threshold_22 : decode cX2_threshold 22 = .ok (.iconst 1, 1) := by decide +kernel
theorem dX2_threshold_23 : decode cX2_threshold 23 = .ok (.isub, 1) := by decide +kernel
theorem dX2_threshold_24 : decode cX2_threshold 24 = .ok (.ireturn, 1) := by decide +kernel
set_option maxRecDepth 20000 in
theorem ggX2_leastSize_X2_fail : GoodIn wsX2_leastSize wsX2_fail := goodIn_r _ [5, 6, 45, 46, 47, 48, 49] (by decide +kernel) (by decide +kernel)
set_option maxRecDepth 20000 in
theorem gX2_leastSize_X2_fail : GoodIn wsX2_leastSize (wsV RX2 35 RX2 yX2_fail wsX2_fail) := goodIn_app (goodIn_of _ (by decide +kernel)) ggX2_leastSize_X2_fail
set_option maxRecDepth 20000 in
theorem ggX2_leastSize_X2_leastSizeLeaking : GoodIn wsX2_leastSize wsX2_leastSizeLeaking := goodIn_r _ [10, 11, 12, 13, 4, 14, 15, 16, 17, 18, 19, 20, 21, 22, 23, 24, 25, 26, 27, 28, 29, 30, 31, 32, 33, 34, 35, 36, 37, 38, 39, 40, 41, 42, 43, 44, 45, 46, 47, 48, 49, 50, 51, 52, 53, 54, 55] (by decide +kernel) (by decide +kernel)
set_option maxRecDepth 20000 in
theorem gX2_leastSize_X2_leastSizeLeaking : GoodIn wsX2_leastSize (wsV RX2 116 RX2 yX2_leastSizeLeaking wsX2_leastSizeLeaking) := goodIn_app (goodIn_of _ (by decide +kernel)) ggX2_leastSize_X2_leastSizeLeaking
theorem dX2_leastSize_0 : decode cX2_leastSize 0 = .ok (.iload_n 1, 1) := by decide +kernel
theorem dX2_leastSize_1 : decode cX2_leastSize 1 = .ok (.iconst 1, 1) := by decide +kernel
theorem dX2_leastSize_2 : decode cX2_leastSize 2 = .ok (.if_icmp .lt 9, 3) := by decide +kernel
theorem dX2_leastSize_5 : decode cX2_leastSize 5 = .ok (.iload_n 1, 1) := by decide +kernel
theorem dX2_leastSize_6 : decode cX2_leastSize 6 = .ok (.bipush 6, 2) := by decide +kernel
theorem dX2_leastSize_8 : decode cX2_leastSize 8 = .ok (.if_icmp .le 10, 3) := by decide +kernel
theorem dX2_leastSize_11 : decode cX2_leastSize 11 = .ok (.aload_n 0, 1) := by decide +kernel
theorem dX2_leastSize_12 : decode cX2_leastSize 12 = .ok (.bipush (-2), 2) := by decide +kernel
theorem dX2_leastSize_14 : decode cX2_leastSize 14 = .ok (.invokevirtual 35, 3) := by decide +kernel
theorem dX2_leastSize_17 : decode cX2_leastSize 17 = .ok (.ireturn, 1) := by decide +kernel
theorem dX2_leastSize_18 : decode cX2_leastSize 18 = .ok (.aload_n 0, 1) := by decide +kernel
theorem dX2_leastSize_19 : decode cX2_leastSize 19 = .ok (.iload_n 1, 1) := by decide +kernel
theorem dX2_leastSize_20 : decode cX2_leastSize 20 = .ok (.invokevirtual 116, 3) := by decide +kernel
theorem dX2_leastSize_23 : decode cX2_leastSize 23 = .ok (.ireturn, 1) := by decide +kernel
set_option maxRecDepth 20000 in
theorem ggX2_possibleMessages_X2_isObservation : GoodIn wsX2_possibleMessages wsX2_isObservation := goodIn_r _ [5, 6, 7, 8, 4, 9, 10, 11, 12, 13, 14, 46, 47, 48, 49, 50, 51, 52, 53, 54] (by decide +kernel) (by decide +kernel)
set_option maxRecDepth 20000 in
theorem gX2_possibleMessages_X2_isObservation : GoodIn wsX2_possibleMessages (wsV RX2 119 RX2 yX2_isObservation wsX2_isObservation) := goodIn_app (goodIn_of _ (by decide +kernel)) ggX2_possibleMessages_X2_isObservation
set_option maxRecDepth 20000 in
theorem ggX2_possibleMessages_X2_fail : GoodIn wsX2_possibleMessages wsX2_fail := goodIn_r _ [18, 19, 46, 47, 48, 49, 50] (by decide +kernel) (by decide +kernel)
set_option maxRecDepth 20000 in
theorem gX2_possibleMessages_X2_fail : GoodIn wsX2_possibleMessages (wsV RX2 35 RX2 yX2_fail wsX2_fail) := goodIn_app (goodIn_of _ (by decide +kernel)) ggX2_possibleMessages_X2_fail
set_option maxRecDepth 20000 in
theorem ggX2_possibleMessages_X2_messagesFitting : GoodIn wsX2_possibleMessages wsX2_messagesFitting := goodIn_r _ [23, 10, 11, 12, 4, 13, 14, 24, 25, 26, 27, 28, 29, 30, 31, 32, 33, 34, 35, 36, 37, 38, 46, 47, 48, 49, 50, 51, 52, 53, 54] (by decide +kernel) (by decide +kernel)
set_option maxRecDepth 20000 in
theorem gX2_possibleMessages_X2_messagesFitting : GoodIn wsX2_possibleMessages (wsV RX2 122 RX2 yX2_messagesFitting wsX2_messagesFitting) := goodIn_app (goodIn_of _ (by decide +kernel)) ggX2_possibleMessages_X2_messagesFitting
set_option maxRecDepth 20000 in
theorem ggX2_possibleMessages_J13_bitCount_95d88 : GoodIn wsX2_possibleMessages wsJ13_bitCount_95d88 := goodIn_r _ [42, 43, 44, 45] (by decide +kernel) (by decide +kernel)
set_option maxRecDepth 20000 in
theorem gX2_possibleMessages_J13_bitCount_95d88 : GoodIn wsX2_possibleMessages (va_wsS RX2 126 yJ13_bitCount_95d88 wsJ13_bitCount_95d88) := goodIn_app (goodIn_of _ (by decide +kernel)) ggX2_possibleMessages_J13_bitCount_95d88
theorem dX2_possibleMessages_0 : decode cX2_possibleMessages 0 = .ok (.aload_n 0, 1) := by decide +kernel
theorem dX2_possibleMessages_1 : decode cX2_possibleMessages 1 = .ok (.iload_n 1, 1) := by decide +kernel
theorem dX2_possibleMessages_2 : decode cX2_possibleMessages 2 = .ok (.iload_n 2, 1) := by decide +kernel
theorem dX2_possibleMessages_3 : decode cX2_possibleMessages 3 = .ok (.invokevirtual 119, 3) := by decide +kernel
theorem dX2_possibleMessages_6 : decode cX2_possibleMessages 6 = .ok (.ifCond .ne 10, 3) := by decide +kernel
theorem dX2_possibleMessages_9 : decode cX2_possibleMessages 9 = .ok (.aload_n 0, 1) := by decide +kernel
theorem dX2_possibleMessages_10 : decode cX2_possibleMessages 10 = .ok (.bipush (-2), 2) := by decide +kernel
theorem dX2_possibleMessages_12 : decode cX2_possibleMessages 12 = .ok (.invokevirtual 35, 3) := by decide +kernel
theorem dX2_possibleMessages_15 : decode cX2_possibleMessages 15 = .ok (.ireturn, 1) := by decide +kernel
theorem dX2_possibleMessages_16 : decode cX2_possibleMessages 16 = .ok (.aload_n 0, 1) := by decide +kernel
theorem dX2_possibleMessages_17 : decode cX2_possibleMessages 17 = .ok (.iload_n 1, 1) := by decide +kernel
theorem dX2_possibleMessages_18 : decode cX2_possibleMessages 18 = .ok (.iload_n 2, 1) := by decide +kernel
theorem dX2_possibleMessages_19 : decode cX2_possibleMessages 19 = .ok (.invokevirtual 122, 3) := by decide +kernel
theorem dX2_possibleMessages_22 : decode cX2_possibleMessages 22 = .ok (.invokestatic 126, 3) := by decide +kernel
theorem dX2_possibleMessages_25 : decode cX2_possibleMessages 25 = .ok (.ireturn, 1) := by decide +kernel
set_option maxRecDepth 20000 in
theorem ggX2_possibleMessage_X2_isObservation : GoodIn wsX2_possibleMessage wsX2_isObservation := goodIn_r _ [5, 6, 7, 8, 4, 9, 10, 11, 12, 13, 14, 39, 40, 41, 42, 43, 44, 45, 46, 47] (by decide +kernel) (by decide +kernel)
set_option maxRecDepth 20000 in
theorem gX2_possibleMessage_X2_isObservation : GoodIn wsX2_possibleMessage (wsV RX2 119 RX2 yX2_isObservation wsX2_isObservation) := goodIn_app (goodIn_of _ (by decide +kernel)) ggX2_possibleMessage_X2_isObservation
set_option maxRecDepth 20000 in
theorem ggX2_possibleMessage_X2_fail : GoodIn wsX2_possibleMessage wsX2_fail := goodIn_r _ [18, 19, 39, 40, 41, 42, 43] (by decide +kernel) (by decide +kernel)
set_option maxRecDepth 20000 in
theorem gX2_possibleMessage_X2_fail : GoodIn wsX2_possibleMessage (wsV RX2 35 RX2 yX2_fail wsX2_fail) := goodIn_app (goodIn_of _ (by decide +kernel)) ggX2_possibleMessage_X2_fail
set_option maxRecDepth 20000 in
theorem ggX2_possibleMessage_X2_messagesFitting : GoodIn wsX2_possibleMessage wsX2_messagesFitting := goodIn_r _ [23, 10, 11, 12, 4, 13, 14, 24, 25, 26, 27, 28, 29, 30, 31, 32, 33, 34, 35, 36, 37, 38, 39, 40, 41, 42, 43, 44, 45, 46, 47] (by decide +kernel) (by decide +kernel)
set_option maxRecDepth 20000 in
theorem gX2_possibleMessage_X2_messagesFitting : GoodIn wsX2_possibleMessage (wsV RX2 122 RX2 yX2_messagesFitting wsX2_messagesFitting) := goodIn_app (goodIn_of _ (by decide +kernel)) ggX2_possibleMessage_X2_messagesFitting
theorem dX2_possibleMessage_0 : decode cX2_possibleMessage 0 = .ok (.aload_n 0, 1) := by decide +kernel
theorem dX2_possibleMessage_1 : decode cX2_possibleMessage 1 = .ok (.iload_n 1, 1) := by decide +kernel
theorem dX2_possibleMessage_2 : decode cX2_possibleMessage 2 = .ok (.iload_n 2, 1) := by decide +kernel
theorem dX2_possibleMessage_3 : decode cX2_possibleMessage 3 = .ok (.invokevirtual 119, 3) := by decide +kernel
theorem dX2_possibleMessage_6 : decode cX2_possibleMessage 6 = .ok (.ifCond .eq 7, 3) := by decide +kernel
theorem dX2_possibleMessage_9 : decode cX2_possibleMessage 9 = .ok (.iload_n 3, 1) := by decide +kernel
theorem dX2_possibleMessage_10 : decode cX2_possibleMessage 10 = .ok (.ifCond .ge 10, 3) := by decide +kernel
theorem dX2_possibleMessage_13 : decode cX2_possibleMessage 13 = .ok (.aload_n 0, 1) := by decide +kernel
theorem dX2_possibleMessage_14 : decode cX2_possibleMessage 14 = .ok (.bipush (-2), 2) := by decide +kernel
theorem dX2_possibleMessage_16 : decode cX2_possibleMessage 16 = .ok (.invokevirtual 35, 3) := by decide +kernel
theorem dX2_possibleMessage_19 : decode cX2_possibleMessage 19 = .ok (.ireturn, 1) := by decide +kernel
theorem dX2_possibleMessage_20 : decode cX2_possibleMessage 20 = .ok (.aload_n 0, 1) := by decide +kernel
theorem dX2_possibleMessage_21 : decode cX2_possibleMessage 21 = .ok (.iload_n 1, 1) := by decide +kernel
theorem dX2_possibleMessage_22 : decode cX2_possibleMessage 22 = .ok (.iload_n 2, 1) := by decide +kernel
theorem dX2_possibleMessage_23 : decode cX2_possibleMessage 23 = .ok (.invokevirtual 122, 3) := by decide +kernel
theorem dX2_possibleMessage_26 : decode cX2_possibleMessage 26 = .ok (.lstore 4, 2) := by decide +kernel
theorem dX2_possibleMessage_28 : decode cX2_possibleMessage 28 = .ok (.iconst 0, 1) := by decide +kernel
theorem dX2_possibleMessage_29 : decode cX2_possibleMessage 29 = .ok (.istore 6, 2) := by decide +kernel
theorem dX2_possibleMessage_31 : decode cX2_possibleMessage 31 = .ok (.iconst 0, 1) := by decide +kernel
theorem dX2_possibleMessage_32 : decode cX2_possibleMessage 32 = .ok (.istore 7, 2) := by decide +kernel
theorem dX2_possibleMessage_34 : decode cX2_possibleMessage 34 = .ok (.iload 7, 2) := by decide +kernel
theorem dX2_possibleMessage_36 : decode cX2_possibleMessage 36 = .ok (.bipush 64, 2) := by decide +kernel
theorem dX2_possibleMessage_38 : decode cX2_possibleMessage 38 = .ok (.if_icmp .ge 33, 3) := by decide +kernel
theorem dX2_possibleMessage_41 : decode cX2_possibleMessage 41 = .ok (.lload 4, 2) := by decide +kernel
theorem dX2_possibleMessage_43 : decode cX2_possibleMessage 43 = .ok (.iload 7, 2) := by decide +kernel
theorem dX2_possibleMessage_45 : decode cX2_possibleMessage 45 = .ok (.lushr, 1) := by decide +kernel
theorem dX2_possibleMessage_46 : decode cX2_possibleMessage 46 = .ok (.lconst 1, 1) := by decide +kernel
theorem dX2_possibleMessage_47 : decode cX2_possibleMessage 47 = .ok (.land, 1) := by decide +kernel
theorem dX2_possibleMessage_48 : decode cX2_possibleMessage 48 = .ok (.lconst 0, 1) := by decide +kernel
theorem dX2_possibleMessage_49 : decode cX2_possibleMessage 49 = .ok (.lcmp, 1) := by decide +kernel
theorem dX2_possibleMessage_50 : decode cX2_possibleMessage 50 = .ok (.ifCond .eq 15, 3) := by decide +kernel
theorem dX2_possibleMessage_53 : decode cX2_possibleMessage 53 = .ok (.iload 6, 2) := by decide +kernel
theorem dX2_possibleMessage_55 : decode cX2_possibleMessage 55 = .ok (.iload_n 3, 1) := by decide +kernel
theorem dX2_possibleMessage_56 : decode cX2_possibleMessage 56 = .ok (.if_icmp .ne 6, 3) := by decide +kernel
theorem dX2_possibleMessage_59 : decode cX2_possibleMessage 59 = .ok (.iload 7, 2) := by decide +kernel
theorem dX2_possibleMessage_61 : decode cX2_possibleMessage 61 = .ok (.ireturn, 1) := by decide +kernel
theorem dX2_possibleMessage_62 : decode cX2_possibleMessage 62 = .ok (.iinc 6 1, 3) := by decide +kernel
theorem dX2_possibleMessage_65 : decode cX2_possibleMessage 65 = .ok (.iinc 7 1, 3) := by decide +kernel
theorem dX2_possibleMessage_68 : decode cX2_possibleMessage 68 = .ok (.goto (-34), 3) := by decide +kernel
theorem dX2_possibleMessage_71 : decode cX2_possibleMessage 71 = .ok (.aload_n 0, 1) := by decide +kernel
theorem dX2_possibleMessage_72 : decode cX2_possibleMessage 72 = .ok (.bipush (-3), 2) := by decide +kernel
theorem dX2_possibleMessage_74 : decode cX2_possibleMessage 74 = .ok (.invokevirtual 35, 3) := by decide +kernel
theorem dX2_possibleMessage_77 : decode cX2_possibleMessage 77 = .ok (.ireturn, 1) := by decide +kernel
set_option maxRecDepth 20000 in
theorem ggX2_knownCombinations_X2_isWord : GoodIn wsX2_knownCombinations wsX2_isWord := goodIn_r _ [5, 6, 7, 8, 4, 9, 10, 42, 43, 44, 45, 46, 47, 48, 49, 50] (by decide +kernel) (by decide +kernel)
set_option maxRecDepth 20000 in
theorem gX2_knownCombinations_X2_isWord : GoodIn wsX2_knownCombinations (wsV RX2 48 RX2 yX2_isWord wsX2_isWord) := goodIn_app (goodIn_of _ (by decide +kernel)) ggX2_knownCombinations_X2_isWord
set_option maxRecDepth 20000 in
theorem ggX2_knownCombinations_X2_fail : GoodIn wsX2_knownCombinations wsX2_fail := goodIn_r _ [14, 15, 42, 43, 44, 45, 46] (by decide +kernel) (by decide +kernel)
set_option maxRecDepth 20000 in
theorem gX2_knownCombinations_X2_fail : GoodIn wsX2_knownCombinations (wsV RX2 35 RX2 yX2_fail wsX2_fail) := goodIn_app (goodIn_of _ (by decide +kernel)) ggX2_knownCombinations_X2_fail
set_option maxRecDepth 20000 in
theorem ggX2_knownCombinations_X2_allPositions : GoodIn wsX2_knownCombinations wsX2_allPositions := goodIn_r _ [9, 10, 42, 43, 44, 45, 46, 47, 48, 49, 50] (by decide +kernel) (by decide +kernel)
set_option maxRecDepth 20000 in
theorem gX2_knownCombinations_X2_allPositions : GoodIn wsX2_knownCombinations (wsV RX2 79 RX2 yX2_allPositions wsX2_allPositions) := goodIn_app (goodIn_of _ (by decide +kernel)) ggX2_knownCombinations_X2_allPositions
set_option maxRecDepth 20000 in
theorem ggX2_knownCombinations_X2_hiddenBits : GoodIn wsX2_knownCombinations wsX2_hiddenBits := goodIn_r _ [19, 20, 21, 22, 23, 24, 25, 26, 27, 28, 4, 29, 10, 30, 31, 32, 33, 34, 35, 36, 37, 42, 43, 44, 45, 46, 51, 52, 47, 48, 49, 50] (by decide +kernel) (by decide +kernel)
set_option maxRecDepth 20000 in
theorem gX2_knownCombinations_X2_hiddenBits : GoodIn wsX2_knownCombinations (wsV RX2 83 RX2 yX2_hiddenBits wsX2_hiddenBits) := goodIn_app (goodIn_of _ (by decide +kernel)) ggX2_knownCombinations_X2_hiddenBits
set_option maxRecDepth 20000 in
theorem ggX2_knownCombinations_X2_messageRows : GoodIn wsX2_knownCombinations wsX2_messageRows := goodIn_r _ [41, 10, 42, 43, 44, 45, 46, 47, 48, 49, 50] (by decide +kernel) (by decide +kernel)
set_option maxRecDepth 20000 in
theorem gX2_knownCombinations_X2_messageRows : GoodIn wsX2_knownCombinations (wsV RX2 131 RX2 yX2_messageRows wsX2_messageRows) := goodIn_app (goodIn_of _ (by decide +kernel)) ggX2_knownCombinations_X2_messageRows
theorem dX2_knownCombinations_0 : decode cX2_knownCombinations 0 = .ok (.aload_n 0, 1) := by decide +kernel
theorem dX2_knownCombinations_1 : decode cX2_knownCombinations 1 = .ok (.iload_n 1, 1) := by decide +kernel
theorem dX2_knownCombinations_2 : decode cX2_knownCombinations 2 = .ok (.invokevirtual 48, 3) := by decide +kernel
theorem dX2_knownCombinations_5 : decode cX2_knownCombinations 5 = .ok (.ifCond .ne 10, 3) := by decide +kernel
theorem dX2_knownCombinations_8 : decode cX2_knownCombinations 8 = .ok (.aload_n 0, 1) := by decide +kernel
theorem dX2_knownCombinations_9 : decode cX2_knownCombinations 9 = .ok (.bipush (-2), 2) := by decide +kernel
theorem dX2_knownCombinations_11 : decode cX2_knownCombinations 11 = .ok (.invokevirtual 35, 3) := by decide +kernel
theorem dX2_knownCombinations_14 : decode cX2_knownCombinations 14 = .ok (.ireturn, 1) := by decide +kernel
theorem dX2_knownCombinations_15 : decode cX2_knownCombinations 15 = .ok (.aload_n 0, 1) := by decide +kernel
theorem dX2_knownCombinations_16 : decode cX2_knownCombinations 16 = .ok (.aload_n 0, 1) := by decide +kernel
theorem dX2_knownCombinations_17 : decode cX2_knownCombinations 17 = .ok (.invokevirtual 79, 3) := by decide +kernel
theorem dX2_knownCombinations_20 : decode cX2_knownCombinations 20 = .ok (.iload_n 1, 1) := by decide +kernel
theorem dX2_knownCombinations_21 : decode cX2_knownCombinations 21 = .ok (.iconst (-1), 1) := by decide +kernel
theorem dX2_knownCombinations_22 : decode cX2_knownCombinations 22 = .ok (.ixor, 1) := by decide +kernel
theorem dX2_knownCombinations_23 : decode cX2_knownCombinations 23 = .ok (.iand, 1) := by decide +kernel
theorem dX2_knownCombinations_24 : decode cX2_knownCombinations 24 = .ok (.invokevirtual 83, 3) := by decide +kernel
theorem dX2_knownCombinations_27 : decode cX2_knownCombinations 27 = .ok (.istore_n 2, 1) := by decide +kernel
theorem dX2_knownCombinations_28 : decode cX2_knownCombinations 28 = .ok (.iconst 1, 1) := by decide +kernel
theorem dX2_knownCombinations_29 : decode cX2_knownCombinations 29 = .ok (.aload_n 0, 1) := by decide +kernel
theorem dX2_knownCombinations_30 : decode cX2_knownCombinations 30 = .ok (.invokevirtual 131, 3) := by decide +kernel
theorem dX2_knownCombinations_33 : decode cX2_knownCombinations 33 = .ok (.iload_n 2, 1) := by decide +kernel
theorem dX2_knownCombinations_34 : decode cX2_knownCombinations 34 = .ok (.isub, 1) := by decide +kernel
theorem dX2_knownCombinations_35 : decode cX2_knownCombinations 35 = .ok (.ishl, 1) := by decide +kernel
theorem dX2_knownCombinations_36 : decode cX2_knownCombinations 36 = .ok (.iconst 1, 1) := by decide +kernel
theorem dX2_knownCombinations_37 : decode cX2_knownCombinations 37 = .ok (.isub, 1) := by decide +kernel
theorem dX2_knownCombinations_38 : decode cX2_knownCombinations 38 = .ok (.ireturn, 1) := by decide +kernel
set_option maxRecDepth 20000 in
theorem ggX2_undo_X2_fail : GoodIn wsX2_undo wsX2_fail := goodIn_r _ [8, 9, 18, 19, 20, 21, 22] (by decide +kernel) (by decide +kernel)
set_option maxRecDepth 20000 in
theorem gX2_undo_X2_fail : GoodIn wsX2_undo (wsV RX2 35 RX2 yX2_fail wsX2_fail) := goodIn_app (goodIn_of _ (by decide +kernel)) ggX2_undo_X2_fail
set_option maxRecDepth 20000 in
theorem ggX2_undo_X1_copyFrom : GoodIn wsX2_undo wsX1_copyFrom := goodIn_r _ [13, 14, 15, 16, 17, 23, 24, 25, 26] (by decide +kernel) (by decide +kernel)
set_option maxRecDepth 20000 in
theorem gX2_undo_X1_copyFrom_n134 : GoodIn wsX2_undo (wsX1_copyFrom) := ggX2_undo_X1_copyFrom
theorem dX2_undo_0 : decode cX2_undo 0 = .ok (.aload_n 0, 1) := by decide +kernel
theorem dX2_undo_1 : decode cX2_undo 1 = .ok (.getfield 20, 3) := by decide +kernel
theorem dX2_undo_4 : decode cX2_undo 4 = .ok (.ifCond .gt 10, 3) := by decide +kernel
theorem dX2_undo_7 : decode cX2_undo 7 = .ok (.aload_n 0, 1) := by decide +kernel
theorem dX2_undo_8 : decode cX2_undo 8 = .ok (.bipush (-6), 2) := by decide +kernel
theorem dX2_undo_10 : decode cX2_undo 10 = .ok (.invokevirtual 35, 3) := by decide +kernel
theorem dX2_undo_13 : decode cX2_undo 13 = .ok (.ireturn, 1) := by decide +kernel
theorem dX2_undo_14 : decode cX2_undo 14 = .ok (.aload_n 0, 1) := by decide +kernel
theorem dX2_undo_15 : decode cX2_undo 15 = .ok (.dup, 1) := by decide +kernel
theorem dX2_undo_16 : decode cX2_undo 16 = .ok (.getfield 20, 3) := by decide +kernel
theorem dX2_undo_19 : decode cX2_undo 19 = .ok (.iconst 1, 1) := by decide +kernel
theorem dX2_undo_20 : decode cX2_undo 20 = .ok (.isub, 1) := by decide +kernel
theorem dX2_undo_21 : decode cX2_undo 21 = .ok (.putfield 20, 3) := by decide +kernel
theorem dX2_undo_24 : decode cX2_undo 24 = .ok (.aload_n 0, 1) := by decide +kernel
theorem dX2_undo_25 : decode cX2_undo 25 = .ok (.getfield 12, 3) := by decide +kernel
theorem dX2_undo_28 : decode cX2_undo 28 = .ok (.aload_n 0, 1) := by decide +kernel
theorem dX2_undo_29 : decode cX2_undo 29 = .ok (.getfield 16, 3) := by decide +kernel
theorem dX2_undo_32 : decode cX2_undo 32 = .ok (.aload_n 0, 1) := by decide +kernel
theorem dX2_undo_33 : decode cX2_undo 33 = .ok (.getfield 20, 3) := by decide +kernel
theorem dX2_undo_36 : decode cX2_undo 36 = .ok (.aaload, 1) := by decide +kernel
theorem dX2_undo_37 : decode cX2_undo 37 = .ok (.invokevirtual 134, 3) := by decide +kernel
theorem dX2_undo_40 : decode cX2_undo 40 = .ok (.aload_n 0, 1) := by decide +kernel
theorem dX2_undo_41 : decode cX2_undo 41 = .ok (.getfield 20, 3) := by decide +kernel
theorem dX2_undo_44 : decode cX2_undo 44 = .ok (.ireturn, 1) := by decide +kernel
set_option maxRecDepth 20000 in
theorem ggX2_errorCount_X2_fail : GoodIn wsX2_errorCount wsX2_fail := goodIn_r _ [6, 1, 7, 8, 9, 10, 11] (by decide +kernel) (by decide +kernel)
set_option maxRecDepth 20000 in
theorem gX2_errorCount_X2_fail : GoodIn wsX2_errorCount (wsV RX2 35 RX2 yX2_fail wsX2_fail) := goodIn_app (goodIn_of _ (by decide +kernel)) ggX2_errorCount_X2_fail
theorem dX2_errorCount_0 : decode cX2_errorCount 0 = .ok (.iload_n 1, 1) := by decide +kernel
theorem dX2_errorCount_1 : decode cX2_errorCount 1 = .ok (.bipush (-6), 2) := by decide +kernel
theorem dX2_errorCount_3 : decode cX2_errorCount 3 = .ok (.if_icmp .lt 9, 3) := by decide +kernel
theorem dX2_errorCount_6 : decode cX2_errorCount 6 = .ok (.iload_n 1, 1) := by decide +kernel
theorem dX2_errorCount_7 : decode cX2_errorCount 7 = .ok (.bipush (-2), 2) := by decide +kernel
theorem dX2_errorCount_9 : decode cX2_errorCount 9 = .ok (.if_icmp .le 10, 3) := by decide +kernel
theorem dX2_errorCount_12 : decode cX2_errorCount 12 = .ok (.aload_n 0, 1) := by decide +kernel
theorem dX2_errorCount_13 : decode cX2_errorCount 13 = .ok (.bipush (-2), 2) := by decide +kernel
theorem dX2_errorCount_15 : decode cX2_errorCount 15 = .ok (.invokevirtual 35, 3) := by decide +kernel
theorem dX2_errorCount_18 : decode cX2_errorCount 18 = .ok (.ireturn, 1) := by decide +kernel
theorem dX2_errorCount_19 : decode cX2_errorCount 19 = .ok (.aload_n 0, 1) := by decide +kernel
theorem dX2_errorCount_20 : decode cX2_errorCount 20 = .ok (.getfield 24, 3) := by decide +kernel
theorem dX2_errorCount_23 : decode cX2_errorCount 23 = .ok (.bipush (-2), 2) := by decide +kernel
theorem dX2_errorCount_25 : decode cX2_errorCount 25 = .ok (.iload_n 1, 1) := by decide +kernel
theorem dX2_errorCount_26 : decode cX2_errorCount 26 = .ok (.isub, 1) := by decide +kernel
theorem dX2_errorCount_27 : decode cX2_errorCount 27 = .ok (.iaload, 1) := by decide +kernel
theorem dX2_errorCount_28 : decode cX2_errorCount 28 = .ok (.ireturn, 1) := by decide +kernel
set_option maxRecDepth 20000 in
theorem ggX2_digest_X2_mix : GoodIn wsX2_digest wsX2_mix := goodIn_r _ [8, 9] (by decide +kernel) (by decide +kernel)
set_option maxRecDepth 20000 in
theorem gX2_digest_X2_mix : GoodIn wsX2_digest (va_wsS RX2 140 yX2_mix wsX2_mix) := goodIn_app (goodIn_of _ (by decide +kernel)) ggX2_digest_X2_mix
set_option maxRecDepth 20000 in
theorem ggX2_digest_X2_rankOfKind : GoodIn wsX2_digest wsX2_rankOfKind := goodIn_r _ [13, 14, 15, 16, 17, 18, 19, 20, 21, 22, 7, 23, 3, 24, 25, 26, 27, 28, 29, 30, 31, 32, 33, 34, 35, 87, 88, 89, 90, 91, 96, 97, 92, 93, 94, 95] (by decide +kernel) (by decide +kernel)
set_option maxRecDepth 20000 in
theorem gX2_digest_X2_rankOfKind : GoodIn wsX2_digest (wsV RX2 72 RX2 yX2_rankOfKind wsX2_rankOfKind) := goodIn_app (goodIn_of _ (by decide +kernel)) ggX2_digest_X2_rankOfKind
set_option maxRecDepth 20000 in
theorem ggX2_digest_X2_codewords : GoodIn wsX2_digest wsX2_codewords := goodIn_r _ [39, 3, 10, 11, 12, 7, 13, 14, 15, 16, 17, 18, 19, 20, 21, 22, 23, 24, 25, 26, 27, 28, 29, 30, 31, 32, 33, 34, 35, 87, 88, 89, 90, 91, 92, 93, 94, 95, 96, 97] (by decide +kernel) (by decide +kernel)
set_option maxRecDepth 20000 in
theorem gX2_digest_X2_codewords : GoodIn wsX2_digest (wsV RX2 144 RX2 yX2_codewords wsX2_codewords) := goodIn_app (goodIn_of _ (by decide +kernel)) ggX2_digest_X2_codewords
set_option maxRecDepth 20000 in
theorem ggX2_digest_X2_messages : GoodIn wsX2_digest wsX2_messages := goodIn_r _ [43, 20, 21, 22, 7, 23, 3, 44, 45, 46, 47, 14, 15, 16, 17, 18, 19, 24, 25, 26, 27, 28, 29, 30, 31, 32, 33, 34, 35, 87, 88, 89, 90, 91, 92, 93, 94, 95, 96, 97] (by decide +kernel) (by decide +kernel)
set_option maxRecDepth 20000 in
theorem gX2_digest_X2_messages : GoodIn wsX2_digest (wsV RX2 147 RX2 yX2_messages wsX2_messages) := goodIn_app (goodIn_of _ (by decide +kernel)) ggX2_digest_X2_messages
set_option maxRecDepth 20000 in
theorem ggX2_digest_X2_threshold : GoodIn wsX2_digest wsX2_threshold := goodIn_r _ [51, 3, 52, 53, 54, 7, 55, 20, 21, 22, 23, 44, 45, 46, 47, 14, 15, 16, 17, 18, 19, 24, 25, 26, 27, 28, 29, 30, 31, 32, 33, 34, 35, 56, 57, 58, 59, 60, 61, 62, 87, 88, 89, 90, 91, 92, 93, 94, 95, 96, 97] (by decide +kernel) (by decide +kernel)
set_option maxRecDepth 20000 in
theorem gX2_digest_X2_threshold : GoodIn wsX2_digest (wsV RX2 150 RX2 yX2_threshold wsX2_threshold) := goodIn_app (goodIn_of _ (by decide +kernel)) ggX2_digest_X2_threshold
set_option maxRecDepth 20000 in
theorem ggX2_digest_X2_weakness : GoodIn wsX2_digest wsX2_weakness := goodIn_r _ [66, 67, 68, 69, 7, 70, 20, 21, 22, 23, 3, 56, 57, 58, 59, 60, 61, 62, 71, 72, 73, 74, 75, 76, 77, 78, 87, 88, 89, 90, 91, 92, 93, 94, 95] (by decide +kernel) (by decide +kernel)
set_option maxRecDepth 20000 in
theorem gX2_digest_X2_weakness : GoodIn wsX2_digest (wsV RX2 153 RX2 yX2_weakness wsX2_weakness) := goodIn_app (goodIn_of _ (by decide +kernel)) ggX2_digest_X2_weakness
set_option maxRecDepth 20000 in
theorem ggX2_digest_X2_leakiestSet : GoodIn wsX2_digest wsX2_leakiestSet := goodIn_r _ [82, 20, 21, 22, 7, 23, 3, 56, 57, 58, 59, 60, 61, 62, 44, 45, 46, 47, 14, 15, 16, 17, 18, 19, 24, 25, 26, 27, 28, 29, 30, 31, 32, 33, 34, 35, 87, 88, 89, 90, 91, 92, 93, 94, 95, 96, 97] (by decide +kernel) (by decide +kernel)
set_option maxRecDepth 20000 in
theorem gX2_digest_X2_leakiestSet : GoodIn wsX2_digest (wsV RX2 113 RX2 yX2_leakiestSet wsX2_leakiestSet) := goodIn_app (goodIn_of _ (by decide +kernel)) ggX2_digest_X2_leakiestSet
set_option maxRecDepth 20000 in
theorem ggX2_digest_X2_leakedBits : GoodIn wsX2_digest wsX2_leakedBits := goodIn_r _ [86, 20, 21, 22, 7, 23, 3, 44, 45, 46, 47, 14, 15, 16, 17, 18, 19, 24, 25, 26, 27, 28, 29, 30, 31, 32, 33, 34, 35, 87, 88, 89, 90, 91, 92, 93, 94, 95, 96, 97] (by decide +kernel) (by decide +kernel)
set_option maxRecDepth 20000 in
theorem gX2_digest_X2_leakedBits : GoodIn wsX2_digest (wsV RX2 107 RX2 yX2_leakedBits wsX2_leakedBits) := goodIn_app (goodIn_of _ (by decide +kernel)) ggX2_digest_X2_leakedBits
theorem dX2_digest_0 : decode cX2_digest 0 = .ok (.ldc2_w 138, 3) := by decide +kernel
theorem dX2_digest_3 : decode cX2_digest 3 = .ok (.lstore_n 1, 1) := by decide +kernel
theorem dX2_digest_4 : decode cX2_digest 4 = .ok (.iconst 0, 1) := by decide +kernel
theorem dX2_digest_5 : decode cX2_digest 5 = .ok (.istore_n 3, 1) := by decide +kernel
theorem dX2_digest_6 : decode cX2_digest 6 = .ok (.iload_n 3, 1) := by decide +kernel
theorem dX2_digest_7 : decode cX2_digest 7 = .ok (.iconst 5, 1) := by decide +kernel
theorem dX2_digest_8 : decode cX2_digest 8 = .ok (.if_icmp .ge 20, 3) := by decide +kernel
theorem dX2_digest_11 : decode cX2_digest 11 = .ok (.lload_n 1, 1) := by decide +kernel
theorem dX2_digest_12 : decode cX2_digest 12 = .ok (.aload_n 0, 1) := by decide +kernel
theorem dX2_digest_13 : decode cX2_digest 13 = .ok (.getfield 24, 3) := by decide +kernel
theorem dX2_digest_16 : decode cX2_digest 16 = .ok (.iload_n 3, 1) := by decide +kernel
theorem dX2_digest_17 : decode cX2_digest 17 = .ok (.iaload, 1) := by decide +kernel
theorem dX2_digest_18 : decode cX2_digest 18 = .ok (.invokestatic 140, 3) := by decide +kernel
theorem dX2_digest_21 : decode cX2_digest 21 = .ok (.lstore_n 1, 1) := by decide +kernel
theorem dX2_digest_22 : decode cX2_digest 22 = .ok (.iinc 3 1, 3) := by decide +kernel
theorem dX2_digest_25 : decode cX2_digest 25 = .ok (.goto (-19), 3) := by decide +kernel
theorem dX2_digest_28 : decode cX2_digest 28 = .ok (.lload_n 1, 1) := by decide +kernel
theorem dX2_digest_29 : decode cX2_digest 29 = .ok (.aload_n 0, 1) := by decide +kernel
theorem dX2_digest_30 : decode cX2_digest 30 = .ok (.getfield 12, 3) := by decide +kernel
theorem dX2_digest_33 : decode cX2_digest 33 = .ok (.getfield 42, 3) := by decide +kernel
theorem dX2_digest_36 : decode cX2_digest 36 = .ok (.invokestatic 140, 3) := by decide +kernel
theorem dX2_digest_39 : decode cX2_digest 39 = .ok (.lstore_n 1, 1) := by decide +kernel
theorem dX2_digest_40 : decode cX2_digest 40 = .ok (.lload_n 1, 1) := by decide +kernel
theorem dX2_digest_41 : decode cX2_digest 41 = .ok (.aload_n 0, 1) := by decide +kernel
theorem dX2_digest_42 : decode cX2_digest 42 = .ok (.getfield 12, 3) := by decide +kernel
theorem dX2_digest_45 : decode cX2_digest 45 = .ok (.getfield 45, 3) := by decide +kernel
theorem dX2_digest_48 : decode cX2_digest 48 = .ok (.invokestatic 140, 3) := by decide +kernel
theorem dX2_digest_51 : decode cX2_digest 51 = .ok (.lstore_n 1, 1) := by decide +kernel
theorem dX2_digest_52 : decode cX2_digest 52 = .ok (.iconst 0, 1) := by decide +kernel
theorem dX2_digest_53 : decode cX2_digest 53 = .ok (.istore_n 3, 1) := by decide +kernel
theorem dX2_digest_54 : decode cX2_digest 54 = .ok (.iload_n 3, 1) := by decide +kernel
theorem dX2_digest_55 : decode cX2_digest 55 = .ok (.aload_n 0, 1) := by decide +kernel
theorem dX2_digest_56 : decode cX2_digest 56 = .ok (.getfield 12, 3) := by decide +kernel
theorem dX2_digest_59 : decode cX2_digest 59 = .ok (.getfield 45, 3) := by decide +kernel
theorem dX2_digest_62 : decode cX2_digest 62 = .ok (.if_icmp .ge 45, 3) := by decide +kernel
theorem dX2_digest_65 : decode cX2_digest 65 = .ok (.lload_n 1, 1) := by decide +kernel
theorem dX2_digest_66 : decode cX2_digest 66 = .ok (.aload_n 0, 1) := by decide +kernel
theorem dX2_digest_67 : decode cX2_digest 67 = .ok (.getfield 12, 3) := by decide +kernel
theorem dX2_digest_70 : decode cX2_digest 70 = .ok (.getfield 59, 3) := by decide +kernel
theorem dX2_digest_73 : decode cX2_digest 73 = .ok (.iload_n 3, 1) := by decide +kernel
theorem dX2_digest_74 : decode cX2_digest 74 = .ok (.iaload, 1) := by decide +kernel
theorem dX2_digest_75 : decode cX2_digest 75 = .ok (.invokestatic 140, 3) := by decide +kernel
theorem dX2_digest_78 : decode cX2_digest 78 = .ok (.lstore_n 1, 1) := by decide +kernel
theorem dX2_digest_79 : decode cX2_digest 79 = .ok (.lload_n 1, 1) := by decide +kernel
theorem dX2_digest_80 : decode cX2_digest 80 = .ok (.aload_n 0, 1) := by decide +kernel
theorem dX2_digest_81 : decode cX2_digest 81 = .ok (.getfield 12, 3) := by decide +kernel
theorem dX2_digest_84 : decode cX2_digest 84 = .ok (.getfield 62, 3) := by decide +kernel
theorem dX2_digest_87 : decode cX2_digest 87 = .ok (.iload_n 3, 1) := by decide +kernel
theorem dX2_digest_88 : decode cX2_digest 88 = .ok (.baload, 1) := by decide +kernel
theorem dX2_digest_89 : decode cX2_digest 89 = .ok (.ifCond .eq 7, 3) := by decide +kernel
theorem dX2_digest_92 : decode cX2_digest 92 = .ok (.iconst 1, 1) := by decide +kernel
theorem dX2_digest_93 : decode cX2_digest 93 = .ok (.goto 4, 3) := by decide +kernel
theorem dX2_digest_96 : decode cX2_digest 96 = .ok (.iconst 0, 1) := by decide +kernel
theorem dX2_digest_97 : decode cX2_digest 97 = .ok (.invokestatic 140, 3) := by decide +kernel
theorem dX2_digest_100 : decode cX2_digest 100 = .ok (.lstore_n 1, 1) := by decide +kernel
theorem dX2_digest_101 : decode cX2_digest 101 = .ok (.iinc 3 1, 3) := by decide +kernel
theorem dX2_digest_104 : decode cX2_digest 104 = .ok (.goto (-50), 3) := by decide +kernel
theorem dX2_digest_107 : decode cX2_digest 107 = .ok (.iconst 0, 1) := by decide +kernel
theorem dX2_digest_108 : decode cX2_digest 108 = .ok (.istore_n 3, 1) := by decide +kernel
theorem dX2_digest_109 : decode cX2_digest 109 = .ok (.iload_n 3, 1) := by decide +kernel
theorem dX2_digest_110 : decode cX2_digest 110 = .ok (.iconst 2, 1) := by decide +kernel
theorem dX2_digest_111 : decode cX2_digest 111 = .ok (.if_icmp .gt 19, 3) := by decide +kernel
theorem dX2_digest_114 : decode cX2_digest 114 = .ok (.lload_n 1, 1) := by decide +kernel
theorem dX2_digest_115 : decode cX2_digest 115 = .ok (.aload_n 0, 1) := by decide +kernel
theorem dX2_digest_116 : decode cX2_digest 116 = .ok (.iload_n 3, 1) := by decide +kernel
theorem dX2_digest_117 : decode cX2_digest 117 = .ok (.invokevirtual 72, 3) := by decide +kernel
theorem dX2_digest_120 : decode cX2_digest 120 = .ok (.invokestatic 140, 3) := by decide +kernel
theorem dX2_digest_123 : decode cX2_digest 123 = .ok (.lstore_n 1, 1) := by decide +kernel
theorem dX2_digest_124 : decode cX2_digest 124 = .ok (.iinc 3 1, 3) := by decide +kernel
theorem dX2_digest_127 : decode cX2_digest 127 = .ok (.goto (-18), 3) := by decide +kernel
theorem dX2_digest_130 : decode cX2_digest 130 = .ok (.lload_n 1, 1) := by decide +kernel
theorem dX2_digest_131 : decode cX2_digest 131 = .ok (.aload_n 0, 1) := by decide +kernel
theorem dX2_digest_132 : decode cX2_digest 132 = .ok (.invokevirtual 144, 3) := by decide +kernel
theorem dX2_digest_135 : decode cX2_digest 135 = .ok (.invokestatic 140, 3) := by decide +kernel
theorem dX2_digest_138 : decode cX2_digest 138 = .ok (.lstore_n 1, 1) := by decide +kernel
theorem dX2_digest_139 : decode cX2_digest 139 = .ok (.lload_n 1, 1) := by decide +kernel
theorem dX2_digest_140 : decode cX2_digest 140 = .ok (.aload_n 0, 1) := by decide +kernel
theorem dX2_digest_141 : decode cX2_digest 141 = .ok (.invokevirtual 147, 3) := by decide +kernel
theorem dX2_digest_144 : decode cX2_digest 144 = .ok (.invokestatic 140, 3) := by decide +kernel
theorem dX2_digest_147 : decode cX2_digest 147 = .ok (.lstore_n 1, 1) := by decide +kernel
theorem dX2_digest_148 : decode cX2_digest 148 = .ok (.lload_n 1, 1) := by decide +kernel
theorem dX2_digest_149 : decode cX2_digest 149 = .ok (.aload_n 0, 1) := by decide +kernel
theorem dX2_digest_150 : decode cX2_digest 150 = .ok (.invokevirtual 150, 3) := by decide +kernel
theorem dX2_digest_153 : decode cX2_digest 153 = .ok (.invokestatic 140, 3) := by decide +kernel
theorem dX2_digest_156 : decode cX2_digest 156 = .ok (.lstore_n 1, 1) := by decide +kernel
theorem dX2_digest_157 : decode cX2_digest 157 = .ok (.lload_n 1, 1) := by decide +kernel
theorem dX2_digest_158 : decode cX2_digest 158 = .ok (.aload_n 0, 1) := by decide +kernel
theorem dX2_digest_159 : decode cX2_digest 159 = .ok (.invokevirtual 153, 3) := by decide +kernel
theorem dX2_digest_162 : decode cX2_digest 162 = .ok (.invokestatic 140, 3) := by decide +kernel
theorem dX2_digest_165 : decode cX2_digest 165 = .ok (.lstore_n 1, 1) := by decide +kernel
theorem dX2_digest_166 : decode cX2_digest 166 = .ok (.iconst 0, 1) := by decide +kernel
theorem dX2_digest_167 : decode cX2_digest 167 = .ok (.istore_n 3, 1) := by decide +kernel
theorem dX2_digest_168 : decode cX2_digest 168 = .ok (.iload_n 3, 1) := by decide +kernel
theorem dX2_digest_169 : decode cX2_digest 169 = .ok (.aload_n 0, 1) := by decide +kernel
theorem dX2_digest_170 : decode cX2_digest 170 = .ok (.getfield 12, 3) := by decide +kernel
theorem dX2_digest_173 : decode cX2_digest 173 = .ok (.getfield 42, 3) := by decide +kernel
theorem dX2_digest_176 : decode cX2_digest 176 = .ok (.if_icmp .gt 34, 3) := by decide +kernel
theorem dX2_digest_179 : decode cX2_digest 179 = .ok (.aload_n 0, 1) := by decide +kernel
theorem dX2_digest_180 : decode cX2_digest 180 = .ok (.iload_n 3, 1) := by decide +kernel
theorem dX2_digest_181 : decode cX2_digest 181 = .ok (.invokevirtual 113, 3) := by decide +kernel
theorem dX2_digest_184 : decode cX2_digest 184 = .ok (.istore 4, 2) := by decide +kernel
theorem dX2_digest_186 : decode cX2_digest 186 = .ok (.lload_n 1, 1) := by decide +kernel
theorem dX2_digest_187 : decode cX2_digest 187 = .ok (.aload_n 0, 1) := by decide +kernel
theorem dX2_digest_188 : decode cX2_digest 188 = .ok (.iload 4, 2) := by decide +kernel
theorem dX2_digest_190 : decode cX2_digest 190 = .ok (.invokevirtual 107, 3) := by decide +kernel
theorem dX2_digest_193 : decode cX2_digest 193 = .ok (.invokestatic 140, 3) := by decide +kernel
theorem dX2_digest_196 : decode cX2_digest 196 = .ok (.lstore_n 1, 1) := by decide +kernel
theorem dX2_digest_197 : decode cX2_digest 197 = .ok (.lload_n 1, 1) := by decide +kernel
theorem dX2_digest_198 : decode cX2_digest 198 = .ok (.iload 4, 2) := by decide +kernel
theorem dX2_digest_200 : decode cX2_digest 200 = .ok (.invokestatic 140, 3) := by decide +kernel
theorem dX2_digest_203 : decode cX2_digest 203 = .ok (.lstore_n 1, 1) := by decide +kernel
theorem dX2_digest_204 : decode cX2_digest 204 = .ok (.iinc 3 1, 3) := by decide +kernel
theorem dX2_digest_207 : decode cX2_digest 207 = .ok (.goto (-39), 3) := by decide +kernel
theorem dX2_digest_210 : decode cX2_digest 210 = .ok (.lload_n 1, 1) := by decide +kernel
theorem dX2_digest_211 : decode cX2_digest 211 = .ok (.aload_n 0, 1) := by decide +kernel
theorem dX2_digest_212 : decode cX2_digest 212 = .ok (.getfield 20, 3) := by decide +kernel
theorem dX2_digest_215 : decode cX2_digest 215 = .ok (.invokestatic 140, 3) := by decide +kernel
theorem dX2_digest_218 : decode cX2_digest 218 = .ok (.lreturn, 1) := by decide +kernel
theorem dX2_mix_0 : decode cX2_mix 0 = .ok (.ldc2_w 156, 3) := by decide +kernel
theorem dX2_mix_3 : decode cX2_mix 3 = .ok (.lload_n 0, 1) := by decide +kernel
theorem dX2_mix_4 : decode cX2_mix 4 = .ok (.lmul, 1) := by decide +kernel
theorem dX2_mix_5 : decode cX2_mix 5 = .ok (.iload_n 2, 1) := by decide +kernel
theorem dX2_mix_6 : decode cX2_mix 6 = .ok (.i2l, 1) := by decide +kernel
theorem dX2_mix_7 : decode cX2_mix 7 = .ok (.ladd, 1) := by decide +kernel
theorem dX2_mix_8 : decode cX2_mix 8 = .ok (.lreturn, 1) := by decide +kernel
theorem dX2_fail_0 : decode cX2_fail 0 = .ok (.bipush (-2), 2) := by decide +kernel
theorem dX2_fail_2 : decode cX2_fail 2 = .ok (.iload_n 1, 1) := by decide +kernel
theorem dX2_fail_3 : decode cX2_fail 3 = .ok (.isub, 1) := by decide +kernel
theorem dX2_fail_4 : decode cX2_fail 4 = .ok (.istore_n 2, 1) := by decide +kernel
theorem dX2_fail_5 : decode cX2_fail 5 = .ok (.iload_n 2, 1) := by decide +kernel
theorem dX2_fail_6 : decode cX2_fail 6 = .ok (.ifCond .lt 18, 3) := by decide +kernel
theorem dX2_fail_9 : decode cX2_fail 9 = .ok (.iload_n 2, 1) := by decide +kernel
theorem dX2_fail_10 : decode cX2_fail 10 = .ok (.iconst 5, 1) := by decide +kernel
theorem dX2_fail_11 : decode cX2_fail 11 = .ok (.if_icmp .ge 13, 3) := by decide +kernel
theorem dX2_fail_14 : decode cX2_fail 14 = .ok (.aload_n 0, 1) := by decide +kernel
theorem dX2_fail_15 : decode cX2_fail 15 = .ok (.getfield 24, 3) := by decide +kernel
theorem dX2_fail_18 : decode cX2_fail 18 = .ok (.iload_n 2, 1) := by decide +kernel
theorem dX2_fail_19 : decode cX2_fail 19 = .ok (.dup2, 1) := by decide +kernel
theorem dX2_fail_20 : decode cX2_fail 20 = .ok (.iaload, 1) := by decide +kernel
theorem dX2_fail_21 : decode cX2_fail 21 = .ok (.iconst 1, 1) := by decide +kernel
theorem dX2_fail_22 : decode cX2_fail 22 = .ok (.iadd, 1) := by decide +kernel
theorem dX2_fail_23 : decode cX2_fail 23 = .ok (.iastore, 1) := by decide +kernel
theorem dX2_fail_24 : decode cX2_fail 24 = .ok (.iload_n 1, 1) := by decide +kernel
theorem dX2_fail_25 : decode cX2_fail 25 = .ok (.ireturn, 1) := by decide +kernel
set_option maxRecDepth 20000 in
theorem ggX2_saveState_X2_dropOldest : GoodIn wsX2_saveState wsX2_dropOldest := goodIn_r _ [8, 2, 1, 17, 18, 19, 20, 21] (by decide +kernel) (by decide +kernel)
set_option maxRecDepth 20000 in
theorem gX2_saveState_X2_dropOldest : GoodIn wsX2_saveState (wsV RX2 158 RX2 yX2_dropOldest wsX2_dropOldest) := goodIn_app (goodIn_of _ (by decide +kernel)) ggX2_saveState_X2_dropOldest
set_option maxRecDepth 20000 in
theorem ggX2_saveState_X1_copyFrom : GoodIn wsX2_saveState wsX1_copyFrom := goodIn_r _ [12, 13, 14, 15, 16, 22, 23, 24, 25] (by decide +kernel) (by decide +kernel)
set_option maxRecDepth 20000 in
theorem gX2_saveState_X1_copyFrom_n134 : GoodIn wsX2_saveState (wsX1_copyFrom) := ggX2_saveState_X1_copyFrom
theorem dX2_saveState_0 : decode cX2_saveState 0 = .ok (.aload_n 0, 1) := by decide +kernel
theorem dX2_saveState_1 : decode cX2_saveState 1 = .ok (.getfield 20, 3) := by decide +kernel
theorem dX2_saveState_4 : decode cX2_saveState 4 = .ok (.iconst 4, 1) := by decide +kernel
theorem dX2_saveState_5 : decode cX2_saveState 5 = .ok (.if_icmp .lt 7, 3) := by decide +kernel
theorem dX2_saveState_8 : decode cX2_saveState 8 = .ok (.aload_n 0, 1) := by decide +kernel
theorem dX2_saveState_9 : decode cX2_saveState 9 = .ok (.invokevirtual 158, 3) := by decide +kernel
theorem dX2_saveState_12 : decode cX2_saveState 12 = .ok (.aload_n 0, 1) := by decide +kernel
theorem dX2_saveState_13 : decode cX2_saveState 13 = .ok (.getfield 16, 3) := by decide +kernel
theorem dX2_saveState_16 : decode cX2_saveState 16 = .ok (.aload_n 0, 1) := by decide +kernel
theorem dX2_saveState_17 : decode cX2_saveState 17 = .ok (.getfield 20, 3) := by decide +kernel
theorem dX2_saveState_20 : decode cX2_saveState 20 = .ok (.aaload, 1) := by decide +kernel
theorem dX2_saveState_21 : decode cX2_saveState 21 = .ok (.aload_n 0, 1) := by decide +kernel
theorem dX2_saveState_22 : decode cX2_saveState 22 = .ok (.getfield 12, 3) := by decide +kernel
theorem dX2_saveState_25 : decode cX2_saveState 25 = .ok (.invokevirtual 134, 3) := by decide +kernel
theorem dX2_saveState_28 : decode cX2_saveState 28 = .ok (.aload_n 0, 1) := by decide +kernel
theorem dX2_saveState_29 : decode cX2_saveState 29 = .ok (.dup, 1) := by decide +kernel
theorem dX2_saveState_30 : decode cX2_saveState 30 = .ok (.getfield 20, 3) := by decide +kernel
theorem dX2_saveState_33 : decode cX2_saveState 33 = .ok (.iconst 1, 1) := by decide +kernel
theorem dX2_saveState_34 : decode cX2_saveState 34 = .ok (.iadd, 1) := by decide +kernel
theorem dX2_saveState_35 : decode cX2_saveState 35 = .ok (.putfield 20, 3) := by decide +kernel
theorem dX2_saveState_38 : decode cX2_saveState 38 = .ok (.return_, 1) := by decide +kernel
theorem dX2_dropOldest_0 : decode cX2_dropOldest 0 = .ok (.aload_n 0, 1) := by decide +kernel
theorem dX2_dropOldest_1 : decode cX2_dropOldest 1 = .ok (.getfield 16, 3) := by decide +kernel
theorem dX2_dropOldest_4 : decode cX2_dropOldest 4 = .ok (.iconst 0, 1) := by decide +kernel
theorem dX2_dropOldest_5 : decode cX2_dropOldest 5 = .ok (.aaload, 1) := by decide +kernel
theorem dX2_dropOldest_6 : decode cX2_dropOldest 6 = .ok (.astore_n 1, 1) := by decide +kernel
theorem dX2_dropOldest_7 : decode cX2_dropOldest 7 = .ok (.iconst 1, 1) := by decide +kernel
theorem dX2_dropOldest_8 : decode cX2_dropOldest 8 = .ok (.istore_n 2, 1) := by decide +kernel
theorem dX2_dropOldest_9 : decode cX2_dropOldest 9 = .ok (.iload_n 2, 1) := by decide +kernel
theorem dX2_dropOldest_10 : decode cX2_dropOldest 10 = .ok (.iconst 4, 1) := by decide +kernel
theorem dX2_dropOldest_11 : decode cX2_dropOldest 11 = .ok (.if_icmp .ge 23, 3) := by decide +kernel
theorem dX2_dropOldest_14 : decode cX2_dropOldest 14 = .ok (.aload_n 0, 1) := by decide +kernel
theorem dX2_dropOldest_15 : decode cX2_dropOldest 15 = .ok (.getfield 16, 3) := by decide +kernel
theorem dX2_dropOldest_18 : decode cX2_dropOldest 18 = .ok (.iload_n 2, 1) := by decide +kernel
theorem dX2_dropOldest_19 : decode cX2_dropOldest 19 = .ok (.iconst 1, 1) := by decide +kernel
theorem dX2_dropOldest_20 : decode cX2_dropOldest 20 = .ok (.isub, 1) := by decide +kernel
theorem dX2_dropOldest_21 : decode cX2_dropOldest 21 = .ok (.aload_n 0, 1) := by decide +kernel
theorem dX2_dropOldest_22 : decode cX2_dropOldest 22 = .ok (.getfield 16, 3) := by decide +kernel
theorem dX2_dropOldest_25 : decode cX2_dropOldest 25 = .ok (.iload_n 2, 1) := by decide +kernel
theorem dX2_dropOldest_26 : decode cX2_dropOldest 26 = .ok (.aaload, 1) := by decide +kernel
theorem dX2_dropOldest_27 : decode cX2_dropOldest 27 = .ok (.aastore, 1) := by decide +kernel
theorem dX2_dropOldest_28 : decode cX2_dropOldest 28 = .ok (.iinc 2 1, 3) := by decide +kernel
theorem dX2_dropOldest_31 : decode cX2_dropOldest 31 = .ok (.goto (-22), 3) := by decide +kernel
theorem dX2_dropOldest_34 : decode cX2_dropOldest 34 = .ok (.aload_n 0, 1) := by decide +kernel
theorem dX2_dropOldest_35 : decode cX2_dropOldest 35 = .ok (.getfield 16, 3) := by decide +kernel
theorem dX2_dropOldest_38 : decode cX2_dropOldest 38 = .ok (.iconst 3, 1) := by decide +kernel
theorem dX2_dropOldest_39 : decode cX2_dropOldest 39 = .ok (.aload_n 1, 1) := by decide +kernel
theorem dX2_dropOldest_40 : decode cX2_dropOldest 40 = .ok (.aastore, 1) := by decide +kernel
theorem dX2_dropOldest_41 : decode cX2_dropOldest 41 = .ok (.aload_n 0, 1) := by decide +kernel
theorem dX2_dropOldest_42 : decode cX2_dropOldest 42 = .ok (.iconst 3, 1) := by decide +kernel
theorem dX2_dropOldest_43 : decode cX2_dropOldest 43 = .ok (.putfield 20, 3) := by decide +kernel
theorem dX2_dropOldest_46 : decode cX2_dropOldest 46 = .ok (.return_, 1) := by decide +kernel
theorem dX2_allPositions_0 : decode cX2_allPositions 0 = .ok (.iconst 1, 1) := by decide +kernel
theorem dX2_allPositions_1 : decode cX2_allPositions 1 = .ok (.aload_n 0, 1) := by decide +kernel
theorem dX2_allPositions_2 : decode cX2_allPositions 2 = .ok (.getfield 12, 3) := by decide +kernel
theorem dX2_allPositions_5 : decode cX2_allPositions 5 = .ok (.getfield 42, 3) := by decide +kernel
theorem dX2_allPositions_8 : decode cX2_allPositions 8 = .ok (.ishl, 1) := by decide +kernel
theorem dX2_allPositions_9 : decode cX2_allPositions 9 = .ok (.iconst 1, 1) := by decide +kernel
theorem dX2_allPositions_10 : decode cX2_allPositions 10 = .ok (.isub, 1) := by decide +kernel
theorem dX2_allPositions_11 : decode cX2_allPositions 11 = .ok (.ireturn, 1) := by decide +kernel
set_option maxRecDepth 20000 in
theorem ggX2_isWord_X2_allPositions : GoodIn wsX2_isWord wsX2_allPositions := goodIn_r _ [5, 6, 7, 8, 9, 10, 11, 12, 13, 14, 15] (by decide +kernel) (by decide +kernel)
set_option maxRecDepth 20000 in
theorem gX2_isWord_X2_allPositions : GoodIn wsX2_isWord (wsV RX2 79 RX2 yX2_allPositions wsX2_allPositions) := goodIn_app (goodIn_of _ (by decide +kernel)) ggX2_isWord_X2_allPositions
theorem dX2_isWord_0 : decode cX2_isWord 0 = .ok (.iload_n 1, 1) := by decide +kernel
theorem dX2_isWord_1 : decode cX2_isWord 1 = .ok (.ifCond .lt 15, 3) := by decide +kernel
theorem dX2_isWord_4 : decode cX2_isWord 4 = .ok (.iload_n 1, 1) := by decide +kernel
theorem dX2_isWord_5 : decode cX2_isWord 5 = .ok (.aload_n 0, 1) := by decide +kernel
theorem dX2_isWord_6 : decode cX2_isWord 6 = .ok (.invokevirtual 79, 3) := by decide +kernel
theorem dX2_isWord_9 : decode cX2_isWord 9 = .ok (.if_icmp .gt 7, 3) := by decide +kernel
theorem dX2_isWord_12 : decode cX2_isWord 12 = .ok (.iconst 1, 1) := by decide +kernel
theorem dX2_isWord_13 : decode cX2_isWord 13 = .ok (.goto 4, 3) := by decide +kernel
theorem dX2_isWord_16 : decode cX2_isWord 16 = .ok (.iconst 0, 1) := by decide +kernel
theorem dX2_isWord_17 : decode cX2_isWord 17 = .ok (.ireturn, 1) := by decide +kernel
theorem dX2_isRowNumber_0 : decode cX2_isRowNumber 0 = .ok (.iload_n 1, 1) := by decide +kernel
theorem dX2_isRowNumber_1 : decode cX2_isRowNumber 1 = .ok (.ifCond .lt 18, 3) := by decide +kernel
theorem dX2_isRowNumber_4 : decode cX2_isRowNumber 4 = .ok (.iload_n 1, 1) := by decide +kernel
theorem dX2_isRowNumber_5 : decode cX2_isRowNumber 5 = .ok (.aload_n 0, 1) := by decide +kernel
theorem dX2_isRowNumber_6 : decode cX2_isRowNumber 6 = .ok (.getfield 12, 3) := by decide +kernel
theorem dX2_isRowNumber_9 : decode cX2_isRowNumber 9 = .ok (.getfield 45, 3) := by decide +kernel
theorem dX2_isRowNumber_12 : decode cX2_isRowNumber 12 = .ok (.if_icmp .ge 7, 3) := by decide +kernel
theorem dX2_isRowNumber_15 : decode cX2_isRowNumber 15 = .ok (.iconst 1, 1) := by decide +kernel
theorem dX2_isRowNumber_16 : decode cX2_isRowNumber 16 = .ok (.goto 4, 3) := by decide +kernel
theorem dX2_isRowNumber_19 : decode cX2_isRowNumber 19 = .ok (.iconst 0, 1) := by decide +kernel
theorem dX2_isRowNumber_20 : decode cX2_isRowNumber 20 = .ok (.ireturn, 1) := by decide +kernel
theorem dX2_isSize_0 : decode cX2_isSize 0 = .ok (.iload_n 1, 1) := by decide +kernel
theorem dX2_isSize_1 : decode cX2_isSize 1 = .ok (.ifCond .lt 18, 3) := by decide +kernel
theorem dX2_isSize_4 : decode cX2_isSize 4 = .ok (.iload_n 1, 1) := by decide +kernel
theorem dX2_isSize_5 : decode cX2_isSize 5 = .ok (.aload_n 0, 1) := by decide +kernel
theorem dX2_isSize_6 : decode cX2_isSize 6 = .ok (.getfield 12, 3) := by decide +kernel
theorem dX2_isSize_9 : decode cX2_isSize 9 = .ok (.getfield 42, 3) := by decide +kernel
theorem dX2_isSize_12 : decode cX2_isSize 12 = .ok (.if_icmp .gt 7, 3) := by decide +kernel
theorem dX2_isSize_15 : decode cX2_isSize 15 = .ok (.iconst 1, 1) := by decide +kernel
theorem dX2_isSize_16 : decode cX2_isSize 16 = .ok (.goto 4, 3) := by decide +kernel
theorem dX2_isSize_19 : decode cX2_isSize 19 = .ok (.iconst 0, 1) := by decide +kernel
theorem dX2_isSize_20 : decode cX2_isSize 20 = .ok (.ireturn, 1) := by decide +kernel
set_option maxRecDepth 20000 in
theorem ggX2_isObservation_X2_isWord : GoodIn wsX2_isObservation wsX2_isWord := goodIn_r _ [5, 6, 7, 8, 4, 9, 10, 11, 12, 13, 14, 15, 16, 17, 18, 19] (by decide +kernel) (by decide +kernel)
set_option maxRecDepth 20000 in
theorem gX2_isObservation_X2_isWord : GoodIn wsX2_isObservation (wsV RX2 48 RX2 yX2_isWord wsX2_isWord) := goodIn_app (goodIn_of _ (by decide +kernel)) ggX2_isObservation_X2_isWord
theorem dX2_isObservation_0 : decode cX2_isObservation 0 = .ok (.aload_n 0, 1) := by decide +kernel
theorem dX2_isObservation_1 : decode cX2_isObservation 1 = .ok (.iload_n 1, 1) := by decide +kernel
theorem dX2_isObservation_2 : decode cX2_isObservation 2 = .ok (.invokevirtual 48, 3) := by decide +kernel
theorem dX2_isObservation_5 : decode cX2_isObservation 5 = .ok (.ifCond .eq 22, 3) := by decide +kernel
theorem dX2_isObservation_8 : decode cX2_isObservation 8 = .ok (.aload_n 0, 1) := by decide +kernel
theorem dX2_isObservation_9 : decode cX2_isObservation 9 = .ok (.iload_n 2, 1) := by decide +kernel
theorem dX2_isObservation_10 : decode cX2_isObservation 10 = .ok (.invokevirtual 48, 3) := by decide +kernel
theorem dX2_isObservation_13 : decode cX2_isObservation 13 = .ok (.ifCond .eq 14, 3) := by decide +kernel
theorem dX2_isObservation_16 : decode cX2_isObservation 16 = .ok (.iload_n 2, 1) := by decide +kernel
theorem dX2_isObservation_17 : decode cX2_isObservation 17 = .ok (.iload_n 1, 1) := by decide +kernel
theorem dX2_isObservation_18 : decode cX2_isObservation 18 = .ok (.iand, 1) := by decide +kernel
theorem dX2_isObservation_19 : decode cX2_isObservation 19 = .ok (.iload_n 2, 1) := by decide +kernel
theorem dX2_isObservation_20 : decode cX2_isObservation 20 = .ok (.if_icmp .ne 7, 3) := by decide +kernel
theorem dX2_isObservation_23 : decode cX2_isObservation 23 = .ok (.iconst 1, 1) := by decide +kernel
theorem dX2_isObservation_24 : decode cX2_isObservation 24 = .ok (.goto 4, 3) := by decide +kernel
theorem dX2_isObservation_27 : decode cX2_isObservation 27 = .ok (.iconst 0, 1) := by decide +kernel
theorem dX2_isObservation_28 : decode cX2_isObservation 28 = .ok (.ireturn, 1) := by decide +kernel
theorem dX2_isMessage_0 : decode cX2_isMessage 0 = .ok (.iload_n 0, 1) := by decide +kernel
theorem dX2_isMessage_1 : decode cX2_isMessage 1 = .ok (.ifCond .lt 13, 3) := by decide +kernel
theorem dX2_isMessage_4 : decode cX2_isMessage 4 = .ok (.iload_n 0, 1) := by decide +kernel
theorem dX2_isMessage_5 : decode cX2_isMessage 5 = .ok (.bipush 64, 2) := by decide +kernel
theorem dX2_isMessage_7 : decode cX2_isMessage 7 = .ok (.if_icmp .ge 7, 3) := by decide +kernel
theorem dX2_isMessage_10 : decode cX2_isMessage 10 = .ok (.iconst 1, 1) := by decide +kernel
theorem dX2_isMessage_11 : decode cX2_isMessage 11 = .ok (.goto 4, 3) := by decide +kernel
theorem dX2_isMessage_14 : decode cX2_isMessage 14 = .ok (.iconst 0, 1) := by decide +kernel
theorem dX2_isMessage_15 : decode cX2_isMessage 15 = .ok (.ireturn, 1) := by decide +kernel
theorem dX2_messageRows_0 : decode cX2_messageRows 0 = .ok (.iconst 0, 1) := by decide +kernel
theorem dX2_messageRows_1 : decode cX2_messageRows 1 = .ok (.istore_n 1, 1) := by decide +kernel
theorem dX2_messageRows_2 : decode cX2_messageRows 2 = .ok (.iconst 0, 1) := by decide +kernel
theorem dX2_messageRows_3 : decode cX2_messageRows 3 = .ok (.istore_n 2, 1) := by decide +kernel
theorem dX2_messageRows_4 : decode cX2_messageRows 4 = .ok (.iload_n 2, 1) := by decide +kernel
theorem dX2_messageRows_5 : decode cX2_messageRows 5 = .ok (.aload_n 0, 1) := by decide +kernel
theorem dX2_messageRows_6 : decode cX2_messageRows 6 = .ok (.getfield 12, 3) := by decide +kernel
theorem dX2_messageRows_9 : decode cX2_messageRows 9 = .ok (.getfield 45, 3) := by decide +kernel
theorem dX2_messageRows_12 : decode cX2_messageRows 12 = .ok (.if_icmp .ge 24, 3) := by decide +kernel
theorem dX2_messageRows_15 : decode cX2_messageRows 15 = .ok (.aload_n 0, 1) := by decide +kernel
theorem dX2_messageRows_16 : decode cX2_messageRows 16 = .ok (.getfield 12, 3) := by decide +kernel
theorem dX2_messageRows_19 : decode cX2_messageRows 19 = .ok (.getfield 62, 3) := by decide +kernel
theorem dX2_messageRows_22 : decode cX2_messageRows 22 = .ok (.iload_n 2, 1) := by decide +kernel
theorem dX2_messageRows_23 : decode cX2_messageRows 23 = .ok (.baload, 1) := by decide +kernel
theorem dX2_messageRows_24 : decode cX2_messageRows 24 = .ok (.ifCond .ne 6, 3) := by decide +kernel
theorem dX2_messageRows_27 : decode cX2_messageRows 27 = .ok (.iinc 1 1, 3) := by decide +kernel
theorem dX2_messageRows_30 : decode cX2_messageRows 30 = .ok (.iinc 2 1, 3) := by decide +kernel
theorem dX2_messageRows_33 : decode cX2_messageRows 33 = .ok (.goto (-29), 3) := by decide +kernel
theorem dX2_messageRows_36 : decode cX2_messageRows 36 = .ok (.iload_n 1, 1) := by decide +kernel
theorem dX2_messageRows_37 : decode cX2_messageRows 37 = .ok (.ireturn, 1) := by decide +kernel
set_option maxRecDepth 20000 in
theorem ggX2_syndrome_J6_bitCount_0f7a4 : GoodIn wsX2_syndrome wsJ6_bitCount_0f7a4 := goodIn_r _ [5, 6, 7, 8] (by decide +kernel) (by decide +kernel)
set_option maxRecDepth 20000 in
theorem gX2_syndrome_J6_bitCount_0f7a4 : GoodIn wsX2_syndrome (va_wsS RX2 96 yJ6_bitCount_0f7a4 wsJ6_bitCount_0f7a4) := goodIn_app (goodIn_of _ (by decide +kernel)) ggX2_syndrome_J6_bitCount_0f7a4
theorem dX2_syndrome_0 : decode cX2_syndrome 0 = .ok (.iconst 0, 1) := by decide +kernel
theorem dX2_syndrome_1 : decode cX2_syndrome 1 = .ok (.istore_n 3, 1) := by decide +kernel
theorem dX2_syndrome_2 : decode cX2_syndrome 2 = .ok (.iconst 0, 1) := by decide +kernel
theorem dX2_syndrome_3 : decode cX2_syndrome 3 = .ok (.istore 4, 2) := by decide +kernel
theorem dX2_syndrome_5 : decode cX2_syndrome 5 = .ok (.iconst 0, 1) := by decide +kernel
theorem dX2_syndrome_6 : decode cX2_syndrome 6 = .ok (.istore 5, 2) := by decide +kernel
theorem dX2_syndrome_8 : decode cX2_syndrome 8 = .ok (.iload 5, 2) := by decide +kernel
theorem dX2_syndrome_10 : decode cX2_syndrome 10 = .ok (.aload_n 0, 1) := by decide +kernel
theorem dX2_syndrome_11 : decode cX2_syndrome 11 = .ok (.getfield 12, 3) := by decide +kernel
theorem dX2_syndrome_14 : decode cX2_syndrome 14 = .ok (.getfield 45, 3) := by decide +kernel
theorem dX2_syndrome_17 : decode cX2_syndrome 17 = .ok (.if_icmp .ge 49, 3) := by decide +kernel
theorem dX2_syndrome_20 : decode cX2_syndrome 20 = .ok (.aload_n 0, 1) := by decide +kernel
theorem dX2_syndrome_21 : decode cX2_syndrome 21 = .ok (.getfield 12, 3) := by decide +kernel
theorem dX2_syndrome_24 : decode cX2_syndrome 24 = .ok (.getfield 62, 3) := by decide +kernel
theorem dX2_syndrome_27 : decode cX2_syndrome 27 = .ok (.iload 5, 2) := by decide +kernel
theorem dX2_syndrome_29 : decode cX2_syndrome 29 = .ok (.baload, 1) := by decide +kernel
theorem dX2_syndrome_30 : decode cX2_syndrome 30 = .ok (.iload_n 2, 1) := by decide +kernel
theorem dX2_syndrome_31 : decode cX2_syndrome 31 = .ok (.if_icmp .ne 29, 3) := by decide +kernel
theorem dX2_syndrome_34 : decode cX2_syndrome 34 = .ok (.iload_n 3, 1) := by decide +kernel
theorem dX2_syndrome_35 : decode cX2_syndrome 35 = .ok (.aload_n 0, 1) := by decide +kernel
theorem dX2_syndrome_36 : decode cX2_syndrome 36 = .ok (.getfield 12, 3) := by decide +kernel
theorem dX2_syndrome_39 : decode cX2_syndrome 39 = .ok (.getfield 59, 3) := by decide +kernel
theorem dX2_syndrome_42 : decode cX2_syndrome 42 = .ok (.iload 5, 2) := by decide +kernel
theorem dX2_syndrome_44 : decode cX2_syndrome 44 = .ok (.iaload, 1) := by decide +kernel
theorem dX2_syndrome_45 : decode cX2_syndrome 45 = .ok (.iload_n 1, 1) := by decide +kernel
theorem dX2_syndrome_46 : decode cX2_syndrome 46 = .ok (.iand, 1) := by decide +kernel
theorem dX2_syndrome_47 : decode cX2_syndrome 47 = .ok (.invokestatic 96, 3) := by decide +kernel
theorem dX2_syndrome_50 : decode cX2_syndrome 50 = .ok (.iconst 1, 1) := by decide +kernel
theorem dX2_syndrome_51 : decode cX2_syndrome 51 = .ok (.iand, 1) := by decide +kernel
theorem dX2_syndrome_52 : decode cX2_syndrome 52 = .ok (.iload 4, 2) := by decide +kernel
theorem dX2_syndrome_54 : decode cX2_syndrome 54 = .ok (.ishl, 1) := by decide +kernel
theorem dX2_syndrome_55 : decode cX2_syndrome 55 = .ok (.ior, 1) := by decide +kernel
theorem dX2_syndrome_56 : decode cX2_syndrome 56 = .ok (.istore_n 3, 1) := by decide +kernel
theorem dX2_syndrome_57 : decode cX2_syndrome 57 = .ok (.iinc 4 1, 3) := by decide +kernel
theorem dX2_syndrome_60 : decode cX2_syndrome 60 = .ok (.iinc 5 1, 3) := by decide +kernel
theorem dX2_syndrome_63 : decode cX2_syndrome 63 = .ok (.goto (-55), 3) := by decide +kernel
theorem dX2_syndrome_66 : decode cX2_syndrome 66 = .ok (.iload_n 3, 1) := by decide +kernel
theorem dX2_syndrome_67 : decode cX2_syndrome 67 = .ok (.ireturn, 1) := by decide +kernel
set_option maxRecDepth 20000 in
theorem ggX2_isCodeword_X2_syndrome : GoodIn wsX2_isCodeword wsX2_syndrome := goodIn_r _ [5, 6, 7, 8, 9, 10, 11, 12, 13, 14, 15, 16, 17, 18, 19, 20, 21, 22] (by decide +kernel) (by decide +kernel)
set_option maxRecDepth 20000 in
theorem gX2_isCodeword_X2_syndrome : GoodIn wsX2_isCodeword (wsV RX2 75 RX2 yX2_syndrome wsX2_syndrome) := goodIn_app (goodIn_of _ (by decide +kernel)) ggX2_isCodeword_X2_syndrome
theorem dX2_isCodeword_0 : decode cX2_isCodeword 0 = .ok (.aload_n 0, 1) := by decide +kernel
theorem dX2_isCodeword_1 : decode cX2_isCodeword 1 = .ok (.iload_n 1, 1) := by decide +kernel
theorem dX2_isCodeword_2 : decode cX2_isCodeword 2 = .ok (.iconst 1, 1) := by decide +kernel
theorem dX2_isCodeword_3 : decode cX2_isCodeword 3 = .ok (.invokevirtual 75, 3) := by decide +kernel
theorem dX2_isCodeword_6 : decode cX2_isCodeword 6 = .ok (.ifCond .ne 7, 3) := by decide +kernel
theorem dX2_isCodeword_9 : decode cX2_isCodeword 9 = .ok (.iconst 1, 1) := by decide +kernel
theorem dX2_isCodeword_10 : decode cX2_isCodeword 10 = .ok (.goto 4, 3) := by decide +kernel
theorem dX2_isCodeword_13 : decode cX2_isCodeword 13 = .ok (.iconst 0, 1) := by decide +kernel
theorem dX2_isCodeword_14 : decode cX2_isCodeword 14 = .ok (.ireturn, 1) := by decide +kernel
set_option maxRecDepth 20000 in
theorem ggX2_isCodewordOf_X2_isCodeword : GoodIn wsX2_isCodewordOf wsX2_isCodeword := goodIn_r _ [5, 6, 7, 8, 4, 9, 10, 11, 12, 13, 14, 15, 16, 17, 18, 19, 20, 21, 22, 23, 24, 25, 26] (by decide +kernel) (by decide +kernel)
set_option maxRecDepth 20000 in
theorem gX2_isCodewordOf_X2_isCodeword : GoodIn wsX2_isCodewordOf (wsV RX2 101 RX2 yX2_isCodeword wsX2_isCodeword) := goodIn_app (goodIn_of _ (by decide +kernel)) ggX2_isCodewordOf_X2_isCodeword
set_option maxRecDepth 20000 in
theorem ggX2_isCodewordOf_X2_syndrome : GoodIn wsX2_isCodewordOf wsX2_syndrome := goodIn_r _ [9, 10, 11, 12, 13, 14, 15, 16, 17, 18, 19, 20, 21, 22, 23, 24, 25, 26] (by decide +kernel) (by decide +kernel)
set_option maxRecDepth 20000 in
theorem gX2_isCodewordOf_X2_syndrome : GoodIn wsX2_isCodewordOf (wsV RX2 75 RX2 yX2_syndrome wsX2_syndrome) := goodIn_app (goodIn_of _ (by decide +kernel)) ggX2_isCodewordOf_X2_syndrome
theorem dX2_isCodewordOf_0 : decode cX2_isCodewordOf 0 = .ok (.aload_n 0, 1) := by decide +kernel
theorem dX2_isCodewordOf_1 : decode cX2_isCodewordOf 1 = .ok (.iload_n 1, 1) := by decide +kernel
theorem dX2_isCodewordOf_2 : decode cX2_isCodewordOf 2 = .ok (.invokevirtual 101, 3) := by decide +kernel
theorem dX2_isCodewordOf_5 : decode cX2_isCodewordOf 5 = .ok (.ifCond .eq 17, 3) := by decide +kernel
theorem dX2_isCodewordOf_8 : decode cX2_isCodewordOf 8 = .ok (.aload_n 0, 1) := by decide +kernel
theorem dX2_isCodewordOf_9 : decode cX2_isCodewordOf 9 = .ok (.iload_n 1, 1) := by decide +kernel
theorem dX2_isCodewordOf_10 : decode cX2_isCodewordOf 10 = .ok (.iconst 0, 1) := by decide +kernel
theorem dX2_isCodewordOf_11 : decode cX2_isCodewordOf 11 = .ok (.invokevirtual 75, 3) := by decide +kernel
theorem dX2_isCodewordOf_14 : decode cX2_isCodewordOf 14 = .ok (.iload_n 2, 1) := by decide +kernel
theorem dX2_isCodewordOf_15 : decode cX2_isCodewordOf 15 = .ok (.if_icmp .ne 7, 3) := by decide +kernel
theorem dX2_isCodewordOf_18 : decode cX2_isCodewordOf 18 = .ok (.iconst 1, 1) := by decide +kernel
theorem dX2_isCodewordOf_19 : decode cX2_isCodewordOf 19 = .ok (.goto 4, 3) := by decide +kernel
theorem dX2_isCodewordOf_22 : decode cX2_isCodewordOf 22 = .ok (.iconst 0, 1) := by decide +kernel
theorem dX2_isCodewordOf_23 : decode cX2_isCodewordOf 23 = .ok (.ireturn, 1) := by decide +kernel
set_option maxRecDepth 20000 in
theorem ggX2_leastDistance_J6_bitCount_0f7a4 : GoodIn wsX2_leastDistance wsJ6_bitCount_0f7a4 := goodIn_r _ [4, 5, 6, 7] (by decide +kernel) (by decide +kernel)
set_option maxRecDepth 20000 in
theorem gX2_leastDistance_J6_bitCount_0f7a4 : GoodIn wsX2_leastDistance (va_wsS RX2 96 yJ6_bitCount_0f7a4 wsJ6_bitCount_0f7a4) := goodIn_app (goodIn_of _ (by decide +kernel)) ggX2_leastDistance_J6_bitCount_0f7a4
set_option maxRecDepth 20000 in
theorem ggX2_leastDistance_X2_allPositions : GoodIn wsX2_leastDistance wsX2_allPositions := goodIn_r _ [12, 13, 22, 23, 24, 25, 26, 27, 28, 29, 30] (by decide +kernel) (by decide +kernel)
set_option maxRecDepth 20000 in
theorem gX2_leastDistance_X2_allPositions : GoodIn wsX2_leastDistance (wsV RX2 79 RX2 yX2_allPositions wsX2_allPositions) := goodIn_app (goodIn_of _ (by decide +kernel)) ggX2_leastDistance_X2_allPositions
set_option maxRecDepth 20000 in
theorem ggX2_leastDistance_X2_isCodeword : GoodIn wsX2_leastDistance wsX2_isCodeword := goodIn_r _ [17, 18, 19, 20, 11, 21, 13, 1, 2, 3, 4, 5, 6, 7, 22, 23, 24, 25, 26, 27, 28, 29, 30] (by decide +kernel) (by decide +kernel)
set_option maxRecDepth 20000 in
theorem gX2_leastDistance_X2_isCodeword : GoodIn wsX2_leastDistance (wsV RX2 101 RX2 yX2_isCodeword wsX2_isCodeword) := goodIn_app (goodIn_of _ (by decide +kernel)) ggX2_leastDistance_X2_isCodeword
theorem dX2_leastDistance_0 : decode cX2_leastDistance 0 = .ok (.iload_n 1, 1) := by decide +kernel
theorem dX2_leastDistance_1 : decode cX2_leastDistance 1 = .ok (.invokestatic 96, 3) := by decide +kernel
theorem dX2_leastDistance_4 : decode cX2_leastDistance 4 = .ok (.istore_n 2, 1) := by decide +kernel
theorem dX2_leastDistance_5 : decode cX2_leastDistance 5 = .ok (.iconst 0, 1) := by decide +kernel
theorem dX2_leastDistance_6 : decode cX2_leastDistance 6 = .ok (.istore_n 3, 1) := by decide +kernel
theorem dX2_leastDistance_7 : decode cX2_leastDistance 7 = .ok (.iload_n 3, 1) := by decide +kernel
theorem dX2_leastDistance_8 : decode cX2_leastDistance 8 = .ok (.aload_n 0, 1) := by decide +kernel
theorem dX2_leastDistance_9 : decode cX2_leastDistance 9 = .ok (.invokevirtual 79, 3) := by decide +kernel
theorem dX2_leastDistance_12 : decode cX2_leastDistance 12 = .ok (.if_icmp .gt 34, 3) := by decide +kernel
theorem dX2_leastDistance_15 : decode cX2_leastDistance 15 = .ok (.iload_n 3, 1) := by decide +kernel
theorem dX2_leastDistance_16 : decode cX2_leastDistance 16 = .ok (.iload_n 1, 1) := by decide +kernel
theorem dX2_leastDistance_17 : decode cX2_leastDistance 17 = .ok (.ixor, 1) := by decide +kernel
theorem dX2_leastDistance_18 : decode cX2_leastDistance 18 = .ok (.invokestatic 96, 3) := by decide +kernel
theorem dX2_leastDistance_21 : decode cX2_leastDistance 21 = .ok (.istore 4, 2) := by decide +kernel
theorem dX2_leastDistance_23 : decode cX2_leastDistance 23 = .ok (.iload 4, 2) := by decide +kernel
theorem dX2_leastDistance_25 : decode cX2_leastDistance 25 = .ok (.iload_n 2, 1) := by decide +kernel
theorem dX2_leastDistance_26 : decode cX2_leastDistance 26 = .ok (.if_icmp .ge 14, 3) := by decide +kernel
theorem dX2_leastDistance_29 : decode cX2_leastDistance 29 = .ok (.aload_n 0, 1) := by decide +kernel
theorem dX2_leastDistance_30 : decode cX2_leastDistance 30 = .ok (.iload_n 3, 1) := by decide +kernel
theorem dX2_leastDistance_31 : decode cX2_leastDistance 31 = .ok (.invokevirtual 101, 3) := by decide +kernel
theorem dX2_leastDistance_34 : decode cX2_leastDistance 34 = .ok (.ifCond .eq 6, 3) := by decide +kernel
theorem dX2_leastDistance_37 : decode cX2_leastDistance 37 = .ok (.iload 4, 2) := by decide +kernel
theorem dX2_leastDistance_39 : decode cX2_leastDistance 39 = .ok (.istore_n 2, 1) := by decide +kernel
theorem dX2_leastDistance_40 : decode cX2_leastDistance 40 = .ok (.iinc 3 1, 3) := by decide +kernel
theorem dX2_leastDistance_43 : decode cX2_leastDistance 43 = .ok (.goto (-36), 3) := by decide +kernel
theorem dX2_leastDistance_46 : decode cX2_leastDistance 46 = .ok (.iload_n 2, 1) := by decide +kernel
theorem dX2_leastDistance_47 : decode cX2_leastDistance 47 = .ok (.ireturn, 1) := by decide +kernel
set_option maxRecDepth 20000 in
theorem ggX2_leastFatalErrors_X2_allPositions : GoodIn wsX2_leastFatalErrors wsX2_allPositions := goodIn_r _ [5, 6, 22, 23, 24, 25, 26, 27, 28, 29, 30] (by decide +kernel) (by decide +kernel)
set_option maxRecDepth 20000 in
theorem gX2_leastFatalErrors_X2_allPositions : GoodIn wsX2_leastFatalErrors (wsV RX2 79 RX2 yX2_allPositions wsX2_allPositions) := goodIn_app (goodIn_of _ (by decide +kernel)) ggX2_leastFatalErrors_X2_allPositions
set_option maxRecDepth 20000 in
theorem ggX2_leastFatalErrors_J6_bitCount_0f7a4 : GoodIn wsX2_leastFatalErrors wsJ6_bitCount_0f7a4 := goodIn_r _ [10, 11, 12, 13] (by decide +kernel) (by decide +kernel)
set_option maxRecDepth 20000 in
theorem gX2_leastFatalErrors_J6_bitCount_0f7a4 : GoodIn wsX2_leastFatalErrors (va_wsS RX2 96 yJ6_bitCount_0f7a4 wsJ6_bitCount_0f7a4) := goodIn_app (goodIn_of _ (by decide +kernel)) ggX2_leastFatalErrors_J6_bitCount_0f7a4
set_option maxRecDepth 20000 in
theorem ggX2_leastFatalErrors_X2_isCodeword : GoodIn wsX2_leastFatalErrors wsX2_isCodeword := goodIn_r _ [17, 18, 19, 20, 4, 21, 6, 7, 8, 9, 10, 11, 12, 13, 22, 23, 24, 25, 26, 27, 28, 29, 30] (by decide +kernel) (by decide +kernel)
set_option maxRecDepth 20000 in
theorem gX2_leastFatalErrors_X2_isCodeword : GoodIn wsX2_leastFatalErrors (wsV RX2 101 RX2 yX2_isCodeword wsX2_isCodeword) := goodIn_app (goodIn_of _ (by decide +kernel)) ggX2_leastFatalErrors_X2_isCodeword
set_option maxRecDepth 20000 in
theorem ggX2_leastFatalErrors_X2_syndrome : GoodIn wsX2_leastFatalErrors wsX2_syndrome := goodIn_r _ [21, 6, 7, 8, 9, 10, 11, 12, 13, 22, 23, 24, 25, 26, 27, 28, 29, 30] (by decide +kernel) (by decide +kernel)
set_option maxRecDepth 20000 in
theorem gX2_leastFatalErrors_X2_syndrome : GoodIn wsX2_leastFatalErrors (wsV RX2 75 RX2 yX2_syndrome wsX2_syndrome) := goodIn_app (goodIn_of _ (by decide +kernel)) ggX2_leastFatalErrors_X2_syndrome
theorem dX2_leastFatalErrors_0 : decode cX2_leastFatalErrors 0 = .ok (.bipush 9, 2) := by decide +kernel
theorem dX2_leastFatalErrors_2 : decode cX2_leastFatalErrors 2 = .ok (.istore_n 1, 1) := by decide +kernel
theorem dX2_leastFatalErrors_3 : decode cX2_leastFatalErrors 3 = .ok (.iconst 1, 1) := by decide +kernel
theorem dX2_leastFatalErrors_4 : decode cX2_leastFatalErrors 4 = .ok (.istore_n 2, 1) := by decide +kernel
theorem dX2_leastFatalErrors_5 : decode cX2_leastFatalErrors 5 = .ok (.iload_n 2, 1) := by decide +kernel
theorem dX2_leastFatalErrors_6 : decode cX2_leastFatalErrors 6 = .ok (.aload_n 0, 1) := by decide +kernel
theorem dX2_leastFatalErrors_7 : decode cX2_leastFatalErrors 7 = .ok (.invokevirtual 79, 3) := by decide +kernel
theorem dX2_leastFatalErrors_10 : decode cX2_leastFatalErrors 10 = .ok (.if_icmp .gt 38, 3) := by decide +kernel
theorem dX2_leastFatalErrors_13 : decode cX2_leastFatalErrors 13 = .ok (.iload_n 2, 1) := by decide +kernel
theorem dX2_leastFatalErrors_14 : decode cX2_leastFatalErrors 14 = .ok (.invokestatic 96, 3) := by decide +kernel
theorem dX2_leastFatalErrors_17 : decode cX2_leastFatalErrors 17 = .ok (.istore_n 3, 1) := by decide +kernel
theorem dX2_leastFatalErrors_18 : decode cX2_leastFatalErrors 18 = .ok (.iload_n 3, 1) := by decide +kernel
theorem dX2_leastFatalErrors_19 : decode cX2_leastFatalErrors 19 = .ok (.iload_n 1, 1) := by decide +kernel
theorem dX2_leastFatalErrors_20 : decode cX2_leastFatalErrors 20 = .ok (.if_icmp .ge 22, 3) := by decide +kernel
theorem dX2_leastFatalErrors_23 : decode cX2_leastFatalErrors 23 = .ok (.aload_n 0, 1) := by decide +kernel
theorem dX2_leastFatalErrors_24 : decode cX2_leastFatalErrors 24 = .ok (.iload_n 2, 1) := by decide +kernel
theorem dX2_leastFatalErrors_25 : decode cX2_leastFatalErrors 25 = .ok (.invokevirtual 101, 3) := by decide +kernel
theorem dX2_leastFatalErrors_28 : decode cX2_leastFatalErrors 28 = .ok (.ifCond .eq 14, 3) := by decide +kernel
theorem dX2_leastFatalErrors_31 : decode cX2_leastFatalErrors 31 = .ok (.aload_n 0, 1) := by decide +kernel
theorem dX2_leastFatalErrors_32 : decode cX2_leastFatalErrors 32 = .ok (.iload_n 2, 1) := by decide +kernel
theorem dX2_leastFatalErrors_33 : decode cX2_leastFatalErrors 33 = .ok (.iconst 0, 1) := by decide +kernel
theorem dX2_leastFatalErrors_34 : decode cX2_leastFatalErrors 34 = .ok (.invokevirtual 75, 3) := by decide +kernel
theorem dX2_leastFatalErrors_37 : decode cX2_leastFatalErrors 37 = .ok (.ifCond .eq 5, 3) := by decide +kernel
theorem dX2_leastFatalErrors_40 : decode cX2_leastFatalErrors 40 = .ok (.iload_n 3, 1) := by decide +kernel
theorem dX2_leastFatalErrors_41 : decode cX2_leastFatalErrors 41 = .ok (.istore_n 1, 1) := by decide +kernel
theorem dX2_leastFatalErrors_42 : decode cX2_leastFatalErrors 42 = .ok (.iinc 2 1, 3) := by decide +kernel
theorem dX2_leastFatalErrors_45 : decode cX2_leastFatalErrors 45 = .ok (.goto (-40), 3) := by decide +kernel
theorem dX2_leastFatalErrors_48 : decode cX2_leastFatalErrors 48 = .ok (.iload_n 1, 1) := by decide +kernel
theorem dX2_leastFatalErrors_49 : decode cX2_leastFatalErrors 49 = .ok (.bipush 8, 2) := by decide +kernel
theorem dX2_leastFatalErrors_51 : decode cX2_leastFatalErrors 51 = .ok (.if_icmp .le 7, 3) := by decide +kernel
theorem dX2_leastFatalErrors_54 : decode cX2_leastFatalErrors 54 = .ok (.iconst (-1), 1) := by decide +kernel
theorem dX2_leastFatalErrors_55 : decode cX2_leastFatalErrors 55 = .ok (.goto 8, 3) := by decide +kernel
theorem dX2_leastFatalErrors_58 : decode cX2_leastFatalErrors 58 = .ok (.iload_n 1, 1) := by decide +kernel
theorem dX2_leastFatalErrors_59 : decode cX2_leastFatalErrors 59 = .ok (.iconst 1, 1) := by decide +kernel
theorem dX2_leastFatalErrors_60 : decode cX2_leastFatalErrors 60 = .ok (.iadd, 1) := by decide +kernel
theorem dX2_leastFatalErrors_61 : decode cX2_leastFatalErrors 61 = .ok (.iconst 2, 1) := by decide +kernel
theorem dX2_leastFatalErrors_62 : decode cX2_leastFatalErrors 62 = .ok (.idiv, 1) := by decide +kernel
theorem dX2_leastFatalErrors_63 : decode cX2_leastFatalErrors 63 = .ok (.ireturn, 1) := by decide +kernel
set_option maxRecDepth 20000 in
theorem ggX2_rankOfKind_X0_clear : GoodIn wsX2_rankOfKind wsX0_clear := goodIn_r _ [5, 6, 30, 31] (by decide +kernel) (by decide +kernel)
set_option maxRecDepth 20000 in
theorem gX2_rankOfKind_X0_clear_n66 : GoodIn wsX2_rankOfKind (wsX0_clear) := ggX2_rankOfKind_X0_clear
set_option maxRecDepth 20000 in
theorem ggX2_rankOfKind_X2_allPositions : GoodIn wsX2_rankOfKind wsX2_allPositions := goodIn_r _ [11, 12, 25, 26, 27, 28, 29, 32, 33, 34, 35] (by decide +kernel) (by decide +kernel)
set_option maxRecDepth 20000 in
theorem gX2_rankOfKind_X2_allPositions : GoodIn wsX2_rankOfKind (wsV RX2 79 RX2 yX2_allPositions wsX2_allPositions) := goodIn_app (goodIn_of _ (by decide +kernel)) ggX2_rankOfKind_X2_allPositions
set_option maxRecDepth 20000 in
theorem ggX2_rankOfKind_X2_extendBasis : GoodIn wsX2_rankOfKind wsX2_extendBasis := goodIn_r _ [16, 12, 1, 17, 3, 18, 19, 6, 20, 21, 22, 23, 24, 25, 26, 27, 28, 29, 32, 33, 34, 35, 30, 31] (by decide +kernel) (by decide +kernel)
set_option maxRecDepth 20000 in
theorem gX2_rankOfKind_X2_extendBasis : GoodIn wsX2_rankOfKind (wsV RX2 161 RX2 yX2_extendBasis wsX2_extendBasis) := goodIn_app (goodIn_of _ (by decide +kernel)) ggX2_rankOfKind_X2_extendBasis
theorem dX2_rankOfKind_0 : decode cX2_rankOfKind 0 = .ok (.aload_n 0, 1) := by decide +kernel
theorem dX2_rankOfKind_1 : decode cX2_rankOfKind 1 = .ok (.getfield 31, 3) := by decide +kernel
theorem dX2_rankOfKind_4 : decode cX2_rankOfKind 4 = .ok (.invokevirtual 66, 3) := by decide +kernel
theorem dX2_rankOfKind_7 : decode cX2_rankOfKind 7 = .ok (.iconst 0, 1) := by decide +kernel
theorem dX2_rankOfKind_8 : decode cX2_rankOfKind 8 = .ok (.istore_n 2, 1) := by decide +kernel
theorem dX2_rankOfKind_9 : decode cX2_rankOfKind 9 = .ok (.iload_n 1, 1) := by decide +kernel
theorem dX2_rankOfKind_10 : decode cX2_rankOfKind 10 = .ok (.iconst 1, 1) := by decide +kernel
theorem dX2_rankOfKind_11 : decode cX2_rankOfKind 11 = .ok (.if_icmp .eq 15, 3) := by decide +kernel
theorem dX2_rankOfKind_14 : decode cX2_rankOfKind 14 = .ok (.iload_n 2, 1) := by decide +kernel
theorem dX2_rankOfKind_15 : decode cX2_rankOfKind 15 = .ok (.aload_n 0, 1) := by decide +kernel
theorem dX2_rankOfKind_16 : decode cX2_rankOfKind 16 = .ok (.iconst 0, 1) := by decide +kernel
theorem dX2_rankOfKind_17 : decode cX2_rankOfKind 17 = .ok (.aload_n 0, 1) := by decide +kernel
theorem dX2_rankOfKind_18 : decode cX2_rankOfKind 18 = .ok (.invokevirtual 79, 3) := by decide +kernel
theorem dX2_rankOfKind_21 : decode cX2_rankOfKind 21 = .ok (.invokevirtual 161, 3) := by decide +kernel
theorem dX2_rankOfKind_24 : decode cX2_rankOfKind 24 = .ok (.iadd, 1) := by decide +kernel
theorem dX2_rankOfKind_25 : decode cX2_rankOfKind 25 = .ok (.istore_n 2, 1) := by decide +kernel
theorem dX2_rankOfKind_26 : decode cX2_rankOfKind 26 = .ok (.iload_n 1, 1) := by decide +kernel
theorem dX2_rankOfKind_27 : decode cX2_rankOfKind 27 = .ok (.ifCond .eq 15, 3) := by decide +kernel
theorem dX2_rankOfKind_30 : decode cX2_rankOfKind 30 = .ok (.iload_n 2, 1) := by decide +kernel
theorem dX2_rankOfKind_31 : decode cX2_rankOfKind 31 = .ok (.aload_n 0, 1) := by decide +kernel
theorem dX2_rankOfKind_32 : decode cX2_rankOfKind 32 = .ok (.iconst 1, 1) := by decide +kernel
theorem dX2_rankOfKind_33 : decode cX2_rankOfKind 33 = .ok (.aload_n 0, 1) := by decide +kernel
theorem dX2_rankOfKind_34 : decode cX2_rankOfKind 34 = .ok (.invokevirtual 79, 3) := by decide +kernel
theorem dX2_rankOfKind_37 : decode cX2_rankOfKind 37 = .ok (.invokevirtual 161, 3) := by decide +kernel
theorem dX2_rankOfKind_40 : decode cX2_rankOfKind 40 = .ok (.iadd, 1) := by decide +kernel
theorem dX2_rankOfKind_41 : decode cX2_rankOfKind 41 = .ok (.istore_n 2, 1) := by decide +kernel
theorem dX2_rankOfKind_42 : decode cX2_rankOfKind 42 = .ok (.iload_n 2, 1) := by decide +kernel
theorem dX2_rankOfKind_43 : decode cX2_rankOfKind 43 = .ok (.ireturn, 1) := by decide +kernel
set_option maxRecDepth 20000 in
theorem ggX2_extendBasis_X0_extend : GoodIn wsX2_extendBasis wsX0_extend := goodIn_r _ [6, 7, 8, 9, 10, 11, 12, 22, 23] (by decide +kernel) (by decide +kernel)
set_option maxRecDepth 20000 in
theorem gX2_extendBasis_X0_extend_n69 : GoodIn wsX2_extendBasis (wsX0_extend) := ggX2_extendBasis_X0_extend
theorem dX2_extendBasis_0 : decode cX2_extendBasis 0 = .ok (.iconst 0, 1) := by decide +kernel
theorem dX2_extendBasis_1 : decode cX2_extendBasis 1 = .ok (.istore_n 3, 1) := by decide +kernel
theorem dX2_extendBasis_2 : decode cX2_extendBasis 2 = .ok (.iconst 0, 1) := by decide +kernel
theorem dX2_extendBasis_3 : decode cX2_extendBasis 3 = .ok (.istore 4, 2) := by decide +kernel
theorem dX2_extendBasis_5 : decode cX2_extendBasis 5 = .ok (.iload 4, 2) := by decide +kernel
theorem dX2_extendBasis_7 : decode cX2_extendBasis 7 = .ok (.aload_n 0, 1) := by decide +kernel
theorem dX2_extendBasis_8 : decode cX2_extendBasis 8 = .ok (.getfield 12, 3) := by decide +kernel
theorem dX2_extendBasis_11 : decode cX2_extendBasis 11 = .ok (.getfield 45, 3) := by decide +kernel
theorem dX2_extendBasis_14 : decode cX2_extendBasis 14 = .ok (.if_icmp .ge 48, 3) := by decide +kernel
theorem dX2_extendBasis_17 : decode cX2_extendBasis 17 = .ok (.aload_n 0, 1) := by decide +kernel
theorem dX2_extendBasis_18 : decode cX2_extendBasis 18 = .ok (.getfield 12, 3) := by decide +kernel
theorem dX2_extendBasis_21 : decode cX2_extendBasis 21 = .ok (.getfield 62, 3) := by decide +kernel
theorem dX2_extendBasis_24 : decode cX2_extendBasis 24 = .ok (.iload 4, 2) := by decide +kernel
theorem dX2_extendBasis_26 : decode cX2_extendBasis 26 = .ok (.baload, 1) := by decide +kernel
theorem dX2_extendBasis_27 : decode cX2_extendBasis 27 = .ok (.iload_n 1, 1) := by decide +kernel
theorem dX2_extendBasis_28 : decode cX2_extendBasis 28 = .ok (.if_icmp .ne 28, 3) := by decide +kernel
theorem dX2_extendBasis_31 : decode cX2_extendBasis 31 = .ok (.aload_n 0, 1) := by decide +kernel
theorem dX2_extendBasis_32 : decode cX2_extendBasis 32 = .ok (.getfield 31, 3) := by decide +kernel
theorem dX2_extendBasis_35 : decode cX2_extendBasis 35 = .ok (.aload_n 0, 1) := by decide +kernel
theorem dX2_extendBasis_36 : decode cX2_extendBasis 36 = .ok (.getfield 12, 3) := by decide +kernel
theorem dX2_extendBasis_39 : decode cX2_extendBasis 39 = .ok (.getfield 59, 3) := by decide +kernel
theorem dX2_extendBasis_42 : decode cX2_extendBasis 42 = .ok (.iload 4, 2) := by decide +kernel
theorem dX2_extendBasis_44 : decode cX2_extendBasis 44 = .ok (.iaload, 1) := by decide +kernel
theorem dX2_extendBasis_45 : decode cX2_extendBasis 45 = .ok (.iload_n 2, 1) := by decide +kernel
theorem dX2_extendBasis_46 : decode cX2_extendBasis 46 = .ok (.iand, 1) := by decide +kernel
theorem dX2_extendBasis_47 : decode cX2_extendBasis 47 = .ok (.invokevirtual 69, 3) := by decide +kernel
theorem dX2_extendBasis_50 : decode cX2_extendBasis 50 = .ok (.ifCond .eq 6, 3) := by decide +kernel
theorem dX2_extendBasis_53 : decode cX2_extendBasis 53 = .ok (.iinc 3 1, 3) := by decide +kernel
theorem dX2_extendBasis_56 : decode cX2_extendBasis 56 = .ok (.iinc 4 1, 3) := by decide +kernel
